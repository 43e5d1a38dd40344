/-! Constructors, class by class. -/
theorem cz_i {g : GE} {n N : Nat} (hs : shp[n]? = some (20, N)) : cz g n = .inl (g.2.2.1, N, .inl (fun _ => 0)) := by
  unfold cz; rw [cel_i hs]
  have : I0 n = fun _ => 0 := by funext k; simp [I0, hs]
  rw [this]
theorem cz_z {g : GE} {n N : Nat} (hs : shp[n]? = some (21, N)) : cz g n = .inl (g.2.2.2.2.1, N, .inl (fun _ => 0)) := by
  unfold cz; rw [cel_z hs]
  have : I0 n = fun _ => 0 := by funext k; simp [I0, hs]
  rw [this]
theorem cz_j {g : GE} {n N : Nat} (hs : shp[n]? = some (22, N)) : cz g n = .inl (g.2.2.2.1, N, .inr (.inl (fun _ => 0))) := by
  unfold cz; rw [cel_j hs]; rfl
theorem cz_o {g : GE} {n c N : Nat} (hs : shp[n]? = some (c, N)) (hc : c < 20) : cz g n = .inr (c, flds g.1 c (I0 n) (J0 n) n) := by
  unfold cz; rw [cel_o hs hc]
def WI (Γ : Cty) (nL pc : Nat) (o ci : Nat) (fs : List Value) (n : Nat) (e0 : Nat → va_E) (cells slots : Nat) : Prop :=
  ∀ e : Nat → va_E, e o = .inr (ci, fs) → (∀ i, o < i → i < n → e i = cz (bG Γ) i) → (∀ i, i < o → e i = e0 i) → Wc Γ nL pc [(0, .ref (bB Γ + o))] [] n e cells slots
section WIS
variable {Γ : Cty} {cc : ByteArray} {nL d pc mC mS : Nat} {own : String} {n : Nat} {e0 : Nat → va_E} {cells slots : Nat} {o : Nat}
set_option maxHeartbeats 4000000 in
theorem wi_arr {T : u_T} {N ci index pc1 pc2 N' t0 : Nat} {fs fs' : List Value} {atype : ArrayType} {a : Int32} {ty : FieldType} {cA : ClassId} {x : vp_A} (X : Xc Γ cc nL own d mC mS) (hm : (bM Γ).name = "<init>") (ho : o < n) (hcl : vwCl[ci]? = some (own, T, N)) (hin : ∀ w ∈ u_ws own T N, w ∈ TT) (ty0 : Nat → FieldType) (hty0 : ∀ k, k < N → parseFieldDescriptor (T k).2.2.1 = some (ty0 k)) (hnm : ∀ a, a < N → ∀ b, b < N → a ≠ b → (T a).2.1 ≠ (T b).2.1)
    (d0 : decode cc pc = .ok (.aload_n 0, 1)) (hp1 : pc + 1 = pc1) (hpush : ∀ (L : List (Nat × Value)) (st : List Value) (n : Nat) (e : Nat → va_E) (c1 s1 : Nat), Wc Γ nL pc2 L (.int a :: st) n e c1 s1 → Wc Γ nL pc1 L st n e c1 s1) (d2 : decode cc pc2 = .ok (.newarray atype, 2)) (d3 : decode cc (pc2 + 2) = .ok (.putfield index, 3))
    (harr : Cond.arrayClass (newarray.typeOf atype) ∈ TT) (hty : newarray.typeOf atype = ty) (hR : ∀ U : State, va_RA U cA ty → U.vm.findClass ("[" ++ ty.toString) = some cA) (ht : (tysG (bG Γ))[t0]? = some (cA, ty)) (hn : ¬ a < 0) (hN : a.toNatClampNeg = N') (hby : N' * componentBytes ty ≤ 536870912) (hx : vp_cell cA x = arrV cA N' (fun _ => defaultValue ty)) (hc1 : cells + 1 ≤ mC) (hc2 : slots + N' ≤ mS)
    (k0 : Nat) (hk : k0 < N) (hT : (T k0).1 = own) (hlink : Cond.fieldLink own index own (T k0).2.1 (T k0).2.2.1 ∈ TT) (hnar : ∀ q : Nat, narrow (ty0 k0) (.ref q) = .ref q) (hfit : ∀ q : Nat, fits (ty0 k0) (.ref q) = true) (hlen : k0 < fs.length) (hfs : fs.set k0 (.ref (bB Γ + n)) = fs')
    (hcz : cz (bG Γ) n = .inl (cA, x)) (k : WI Γ nL (pc2 + 2 + 3) o ci fs' (n + 1) e0 (cells + 1) (slots + N')) : WI Γ nL pc o ci fs n e0 cells slots := by
  intro e f1 f2 f3
  refine wc_aload_n X d0 0 rfl ?_
  rw [hp1]
  refine hpush _ _ _ _ _ _ ?_
  refine wc_newa (x := x) X d2 harr hty hR ht hn hN hby hx hc1 hc2 ?_
  refine wc_put (fs := fs) X hm (by omega) (by rw [va_up_ne _ _ (by omega), f1]) hcl hin ty0 hty0 hnm k0 hk hT rfl hlink (hnar _) (hfit _) hlen hfs d3 ?_
  refine k _ (va_up_self _ _ _) (fun i h1 h2 => ?_) (fun i h1 => ?_)
  · rw [va_up_ne _ _ (by omega)]
    by_cases hi : i = n
    · subst hi; rw [va_up_self, hcz]
    · rw [va_up_ne _ _ hi]; exact f2 i h1 (by omega)
  · rw [va_up_ne _ _ (by omega), va_up_ne _ _ (by omega)]; exact f3 i h1
set_option maxHeartbeats 4000000 in
theorem wi_int {T : u_T} {N ci index : Nat} {fs fs' : List Value} {a : Int} {v : Int32} (X : Xc Γ cc nL own d mC mS) (hm : (bM Γ).name = "<init>") (ho : o < n) (hcl : vwCl[ci]? = some (own, T, N)) (hin : ∀ w ∈ u_ws own T N, w ∈ TT) (ty0 : Nat → FieldType) (hty0 : ∀ k, k < N → parseFieldDescriptor (T k).2.2.1 = some (ty0 k)) (hnm : ∀ a, a < N → ∀ b, b < N → a ≠ b → (T a).2.1 ≠ (T b).2.1)
    (d0 : decode cc pc = .ok (.aload_n 0, 1)) (d1 : decode cc (pc + 1) = .ok (.iconst a, 1)) (hv : Int32.ofInt a = v) (d3 : decode cc (pc + 1 + 1) = .ok (.putfield index, 3))
    (k0 : Nat) (hk : k0 < N) (hT : (T k0).1 = own) (hlink : Cond.fieldLink own index own (T k0).2.1 (T k0).2.2.1 ∈ TT) (hnar : narrow (ty0 k0) (.int v) = .int v) (hfit : fits (ty0 k0) (.int v) = true) (hlen : k0 < fs.length) (hfs : fs.set k0 (.int v) = fs')
    (k : WI Γ nL (pc + 1 + 1 + 3) o ci fs' n e0 cells slots) : WI Γ nL pc o ci fs n e0 cells slots := by
  intro e f1 f2 f3
  refine wc_aload_n X d0 0 rfl (wc_iconst X d1 hv ?_)
  refine wc_put (fs := fs) X hm ho f1 hcl hin ty0 hty0 hnm k0 hk hT rfl hlink hnar hfit hlen hfs d3 ?_
  refine k _ (va_up_self _ _ _) (fun i h1 h2 => ?_) (fun i h1 => ?_)
  · rw [va_up_ne _ _ (by omega)]; exact f2 i h1 h2
  · rw [va_up_ne _ _ (by omega)]; exact f3 i h1
set_option maxHeartbeats 4000000 in
theorem wi_obj {T : u_T} {N ci index i1 i2 N' ci' : Nat} {C : String} {T' : u_T} {fs fs' fs0 : List Value} {y : MethodName} {bytes : ByteArray} {maxL d' mc ms sz : Nat} (X : Xc Γ cc nL own d mC mS) (hm : (bM Γ).name = "<init>") (ho : o < n) (hcl : vwCl[ci]? = some (own, T, N)) (hin : ∀ w ∈ u_ws own T N, w ∈ TT) (ty0 : Nat → FieldType) (hty0 : ∀ k, k < N → parseFieldDescriptor (T k).2.2.1 = some (ty0 k)) (hnm : ∀ a, a < N → ∀ b, b < N → a ≠ b → (T a).2.1 ≠ (T b).2.1)
    (d0 : decode cc pc = .ok (.aload_n 0, 1)) (d1 : decode cc (pc + 1) = .ok (.new i1, 3)) (d2 : decode cc (pc + 1 + 3) = .ok (.dup, 1)) (d3 : decode cc (pc + 1 + 3 + 1) = .ok (.invokespecial i2, 3)) (d4 : decode cc (pc + 1 + 3 + 1 + 3) = .ok (.putfield index, 3))
    (hcl' : Cond.classLink own i1 C ∈ TT) (hins : Cond.instantiable C N' ∈ TT) (hini : Cond.initialized C ∈ TT) (hin' : ∀ w ∈ u_ws C T' N', w ∈ TT) (ty' : Nat → FieldType) (hty' : ∀ k, k < N' → parseFieldDescriptor (T' k).2.2.1 = some (ty' k)) (hc' : vwCl[ci']? = some (C, T', N')) (hfs0 : ∀ j, j < N' → defaultValue (ty' j) = vp_V fs0 j)
    (hlk : Cond.methodLinkNest own i2 y RX10 ∈ nestL) (hw : Cond.instanceMethod y ∈ TT ∧ Cond.code y bytes maxL none ∈ TT ∧ Cond.initialized y.cls ∈ TT) (hyn : y.name = "<init>") (hyd : y.desc = "()V") (hmh : y.cls ≠ "java/lang/invoke/MethodHandle" ∧ y.cls ≠ "java/lang/invoke/VarHandle") (hmax : maxL ≤ 26)
    (hM : ∀ e : Nat → va_E, CI (bL Γ) (bG Γ) (bB Γ) y bytes maxL d' mc ms n sz e (.inr (ci', fs0))) (hdd : d' + 1 ≤ d) (hc1 : cells + 1 + mc ≤ mC) (hc2 : slots + N' + ms ≤ mS)
    (k0 : Nat) (hk : k0 < N) (hT : (T k0).1 = own) (hlink : Cond.fieldLink own index own (T k0).2.1 (T k0).2.2.1 ∈ TT) (hnar : ∀ q : Nat, narrow (ty0 k0) (.ref q) = .ref q) (hfit : ∀ q : Nat, fits (ty0 k0) (.ref q) = true) (hlen : k0 < fs.length) (hfs : fs.set k0 (.ref (bB Γ + n)) = fs')
    (k : WI Γ nL (pc + 1 + 3 + 1 + 3 + 3) o ci fs' (n + sz) e0 (cells + 1 + mc) (slots + N' + ms)) (hsz : 0 < sz) : WI Γ nL pc o ci fs n e0 cells slots := by
  intro e f1 f2 f3
  refine wc_aload_n X d0 0 rfl ?_
  refine wc_new (fs := fs0) X d1 hcl' hins hini hin' ty' hty' hc' hfs0 (by omega) (by omega) ?_
  refine wc_dup X d2 rfl ?_
  refine wc_init X d3 (Or.inl hlk) hw hyn hyd hmh hmax (hM _) (Nat.le_of_ble_eq_true rfl) hdd hc1 hc2 (fun e' g1 g2 => ?_)
  refine wc_put (fs := fs) X hm (by omega) (by rw [g2 o ho, f1]) hcl hin ty0 hty0 hnm k0 hk hT rfl hlink (hnar _) (hfit _) hlen hfs d4 ?_
  refine k _ (va_up_self _ _ _) (fun i h1 h2 => ?_) (fun i h1 => ?_)
  · rw [va_up_ne _ _ (by omega)]
    by_cases hi : i < n
    · rw [g2 i hi]; exact f2 i h1 hi
    · exact g1 i (by omega) h2
  · rw [va_up_ne _ _ (by omega), g2 i (by omega)]; exact f3 i h1
theorem wi_ret {ci sz mc ms : Nat} {fs : List Value} (X : Xc Γ cc nL own d mC mS) (Y : RtC Γ o sz mc ms e0) (hd : decode cc pc = .ok (.return_, 1)) (hfin : cz (bG Γ) o = .inr (ci, fs)) : WI Γ nL pc o ci fs (o + sz) e0 mc ms := by
  intro e f1 f2 f3
  refine wc_ret X Y hd (fun i h1 h2 => ?_) f3
  by_cases hi : i = o
  · subst hi; rw [f1, hfin]
  · exact f2 i (by omega) h2
theorem wi_super {ci index : Nat} {fs : List Value} (X : Xc Γ cc nL own d mC mS) (d0 : decode cc pc = .ok (.aload_n 0, 1)) (hd : decode cc (pc + 1) = .ok (.invokespecial index, 3)) (hlink : Cond.methodLink own index objectInit ∈ TT) (hw : Cond.instanceMethod objectInit ∈ TT ∧ Cond.code objectInit ⟨#[0xb1]⟩ 1 none ∈ TT) (hd1 : 1 ≤ d) (k : WI Γ nL (pc + 1 + 3) o ci fs n e0 cells slots) : WI Γ nL pc o ci fs n e0 cells slots := by
  intro e f1 f2 f3
  exact wc_aload_n X d0 0 rfl (wc_obj X hd hlink hw hd1 (k e f1 f2 f3))
end WIS
/-- Walk's constructor: nothing changes -/
def CWk (l : Launch) (g : GE) (B n a : Nat) (e : Nat → va_E) : Prop :=
  Met l yX8_init (.code yX8_init cX8_init 1 none :: TT) (rmc 1 0 0) (fun v U => v = #[.ref a] ∧ va_P g.2.1 vwCl (wl B n e) U.heap ∧ U.heap.size = B + n ∧ KG g U ∧ NK U ∧ B ≤ U.heap.size)
    (fun _ st oc t => (oc = .returned none ∧ va_P g.2.1 vwCl (wl B n e) t.heap ∧ t.heap.size = B + n) ∧ va_F (fun q => B ≤ q) st t) 0 0 (fun q => B ≤ q)
theorem ow_ok : Cond.instanceMethod objectInit ∈ TT ∧ Cond.code objectInit ⟨#[0xb1]⟩ 1 none ∈ TT := ⟨TT_at 130 (by decide +kernel) rfl, TT_at 131 (by decide +kernel) rfl⟩
theorem ac_int : Cond.arrayClass .int ∈ TT := TT_at 177 (by decide +kernel) rfl
theorem ac_long : Cond.arrayClass .long ∈ TT := TT_at 178 (by decide +kernel) rfl
theorem ac_boolean : Cond.arrayClass .boolean ∈ TT := TT_at 1347 (by decide +kernel) rfl
theorem dX8_init_0 : decode cX8_init 0 = .ok (.aload_n 0, 1) := by decide +kernel
theorem dX8_init_1 : decode cX8_init 1 = .ok (.invokespecial 1, 3) := by decide +kernel
theorem dX8_init_4 : decode cX8_init 4 = .ok (.return_, 1) := by decide +kernel
theorem mi_X8 : Cond.instanceMethod yX8_init ∈ TT ∧ Cond.code yX8_init cX8_init 1 none ∈ TT ∧ Cond.initialized RX8 ∈ TT := ⟨TT_at 185 (by decide +kernel) rfl, TT_at 186 (by decide +kernel) rfl, TT_at 110 (by decide +kernel) rfl⟩
theorem ml_X8_1 : Cond.methodLink RX8 1 objectInit ∈ TT := TT_at 187 (by decide +kernel) rfl
set_option maxHeartbeats 4000000 in
theorem cwk {l : Launch} {g : GE} {B n a : Nat} {e : Nat → va_E} (hg : g.1 = fun i => B + i) : CWk l g B n a e := by
  refine Met.ofW (cc := cX8_init) (maxL := 1) (ret := none) pn_X8 rfl ?_
  intro p ev s m args below meth c s₁ Bd hml hv
  obtain ⟨rfl, hP, hz, hK, hN, hB⟩ := hv
  have hts := atoms_spec (ws := Cond.code yX8_init cX8_init 1 none :: TT) Bd.pre
  have hown : s.vm.findClass RX8 = some m.cls := findClass_of_methodNamed Bd.named
  have hl := lv_entry [.ref a] (n := 1) (Nat.le_of_ble_eq_true rfl)
  rw [show (#[Value.ref a] : Array Value) = [Value.ref a].toArray from rfl, lg_entry_eq]
  let Γ : Cty := (p, l, ev, (headSpec (Cond.code yX8_init cX8_init 1 none :: TT) (rmc 1 0 0)).room, s, m, #[.ref a], below, meth, c, MQ below (fun _ st oc t => (oc = .returned none ∧ va_P g.2.1 vwCl (wl B n e) t.heap ∧ t.heap.size = B + n) ∧ va_F (fun q => B ≤ q) st t) #[.ref a] s 0 0 (fun q => B ≤ q), g, B)
  have X : Xc Γ cX8_init 1 RX8 1 0 0 := ⟨Bd.exec, Bd.bytes, hml, hown, fun w hw => hts w (List.mem_cons_of_mem _ hw), hK, hN, hB, Nat.le_refl _, Nat.le_refl _, Nat.le_refl _, Nat.le_refl _, hg⟩
  have hret : Wc Γ 1 4 [(0, .ref a)] [] n e 0 0 := fun H locs ls hP1 hS hz1 hl1 => W.vret X.1 X.2.1 Bd.returns (fun t ht hW => ⟨⟨rfl, by rw [ht]; exact hP1, by rw [ht]; exact hz1⟩, hS.F ht⟩) hS.2.2 dX8_init_4 Bd.notSynchronized
  have key : Wc Γ 1 0 [(0, .ref a)] [] n e 0 0 := wc_aload_n X dX8_init_0 0 rfl (wc_obj X dX8_init_1 ml_X8_1 ow_ok (by decide) hret)
  exact key s.heap [] _ hP va_S.rf hz hl
set_option maxHeartbeats 4000000 in
theorem wi_walk {Γ : Cty} {cc : ByteArray} {nL d pc mC mS : Nat} {own : String} {n : Nat} {e0 : Nat → va_E} {cells slots : Nat} {o ci index : Nat} {fs : List Value} (X : Xc Γ cc nL own d mC mS) (d0 : decode cc pc = .ok (.aload_n 0, 1)) (hd : decode cc (pc + 1) = .ok (.invokespecial index, 3)) (hlk : Cond.methodLinkNest own index yX8_init RX10 ∈ nestL) (hd1 : 2 ≤ d) (hc1 : cells ≤ mC) (hc2 : slots ≤ mS) (k : WI Γ nL (pc + 1 + 3) o ci fs n e0 cells slots) : WI Γ nL pc o ci fs n e0 cells slots := by
  intro e f1 f2 f3
  refine wc_aload_n X d0 0 rfl ?_
  have kk := k e f1 f2 f3
  obtain ⟨p, l, ev, R, s, m, args, below, meth, c, Q, g, B⟩ := Γ
  obtain ⟨hxe, hb, hml, hown, hts, hK, hNK, hB, hfr, hlo, hce, hsl, hg⟩ := X
  obtain ⟨w1, w2, w3⟩ := mi_X8
  intro H locs ls hP hS hz hl
  have hpar : ∀ sig, parseMethodDescriptor yX8_init.desc = some sig → 0 = sig.parameters.length := par_len (by decide +kernel)
  have hpre : PreS s H (fun v U => v = #[.ref (B + o)] ∧ va_P g.2.1 vwCl (wl B n e) U.heap ∧ U.heap.size = B + n ∧ KG g U ∧ NK U ∧ B ≤ U.heap.size) ([.ref (B + o)]) := by
    refine ⟨fun a U f mk h => ⟨h.1, h.2.1, h.2.2.1, KG.moved (u := U) (U := U.calling f mk a) (Vm.Alike.refl U.vm) h.2.2.2.1, NK.same (s := U) (U := U.calling f mk a) rfl h.2.2.2.2.1, h.2.2.2.2.2⟩, fun U hU hW => ⟨rfl, by rw [hU]; exact hP, by rw [hU]; exact hz, KG.moved hW.alike hK, NK.warm hW hNK, by rw [hU, hz]; omega⟩⟩
  have hrun := va_runIN (g := F0 m pc.succ ls [.ref (B + o)]) (H := H) (locs := locs) (cells := cells) (slots := slots) (below := below) (meth := meth) (e := ev) (n := 0) (As := []) (rest := []) (bytes := cX8_init) (maxL := 1) ⟨hxe, hb, hml, hown, hts⟩ (cwk (l := l) (B := B) (n := n) (a := B + o) (e := e) hg) ⟨⟨⟨rfl, rfl, Nat.le_trans (show 1 + 1 ≤ d from hd1) hfr, by show 8 + (1 + 11) + 45 * 1 ≤ R.locals; omega, TT_warm hts w2, List.mem_cons_self⟩, hts _ w2, hts _ w3, by decide +kernel, hpar, va_Nw.use rfl (hNK.1 _ hlk)⟩, rfl, hts _ w1⟩ hpre rfl rfl hl.1 rfl (lv_room (Nat.le_of_ble_eq_true rfl)) hd ⟨Nat.le_trans (by omega) hce, Nat.le_trans (by omega) hsl⟩
  intro T hT X
  obtain ⟨v, st₀, t, T', L1, h0, X', hL, e1, e2, ⟨⟨hv, g3, gz⟩, hzz, hk⟩, stp⟩ := hrun T hT X
  cases hv
  rw [h0] at hzz hk
  obtain ⟨t2, a1, b1⟩ := kk T'.heap (locs ++ L1) ls (by rw [e1]; exact g3)
    ⟨Nat.le_trans hS.1 (by rw [e1]; exact hzz), fun q h1 h2 => by rw [e1, hk q (Nat.lt_of_lt_of_le h1 hS.1) h2]; exact hS.2.1 q h1 h2, fun q hq => by
      rcases List.mem_append.mp hq with h | h
      · exact hS.2.2 q h
      · exact hL q h⟩ (by rw [e1]; exact gz) hl T' rfl X'
  exact ⟨t2, stp t2 a1, b1⟩
theorem it_X0 : Cond.instantiable RX0 12 ∈ TT := TT_at 135 (by decide +kernel) rfl
theorem ini_X0 : Cond.initialized RX0 ∈ TT := TT_at 109 (by decide +kernel) rfl
theorem mi_X0 : Cond.instanceMethod yX0_init ∈ TT ∧ Cond.code yX0_init cX0_init 1 none ∈ TT ∧ Cond.initialized RX0 ∈ TT := ⟨TT_at 137 (by decide +kernel) rfl, TT_at 138 (by decide +kernel) rfl, ini_X0⟩
theorem it_X1 : Cond.instantiable RX1 5 ∈ TT := TT_at 180 (by decide +kernel) rfl
theorem ini_X1 : Cond.initialized RX1 ∈ TT := TT_at 111 (by decide +kernel) rfl
theorem mi_X1 : Cond.instanceMethod yX1_init ∈ TT ∧ Cond.code yX1_init cX1_init 1 none ∈ TT ∧ Cond.initialized RX1 ∈ TT := ⟨TT_at 182 (by decide +kernel) rfl, TT_at 183 (by decide +kernel) rfl, ini_X1⟩
theorem it_X2 : Cond.instantiable RX2 8 ∈ TT := TT_at 366 (by decide +kernel) rfl
theorem ini_X2 : Cond.initialized RX2 ∈ TT := TT_at 116 (by decide +kernel) rfl
theorem mi_X2 : Cond.instanceMethod yX2_init ∈ TT ∧ Cond.code yX2_init cX2_init 1 none ∈ TT ∧ Cond.initialized RX2 ∈ TT := ⟨TT_at 368 (by decide +kernel) rfl, TT_at 369 (by decide +kernel) rfl, ini_X2⟩
theorem it_X3 : Cond.instantiable RX3 7 ∈ TT := TT_at 189 (by decide +kernel) rfl
theorem ini_X3 : Cond.initialized RX3 ∈ TT := TT_at 112 (by decide +kernel) rfl
theorem mi_X3 : Cond.instanceMethod yX3_init ∈ TT ∧ Cond.code yX3_init cX3_init 1 none ∈ TT ∧ Cond.initialized RX3 ∈ TT := ⟨TT_at 191 (by decide +kernel) rfl, TT_at 192 (by decide +kernel) rfl, ini_X3⟩
theorem it_X4 : Cond.instantiable RX4 7 ∈ TT := TT_at 399 (by decide +kernel) rfl
theorem ini_X4 : Cond.initialized RX4 ∈ TT := TT_at 117 (by decide +kernel) rfl
theorem mi_X4 : Cond.instanceMethod yX4_init ∈ TT ∧ Cond.code yX4_init cX4_init 1 none ∈ TT ∧ Cond.initialized RX4 ∈ TT := ⟨TT_at 401 (by decide +kernel) rfl, TT_at 402 (by decide +kernel) rfl, ini_X4⟩
theorem it_X5 : Cond.instantiable RX5 12 ∈ TT := TT_at 311 (by decide +kernel) rfl
theorem ini_X5 : Cond.initialized RX5 ∈ TT := TT_at 115 (by decide +kernel) rfl
theorem mi_X5 : Cond.instanceMethod yX5_init ∈ TT ∧ Cond.code yX5_init cX5_init 1 none ∈ TT ∧ Cond.initialized RX5 ∈ TT := ⟨TT_at 313 (by decide +kernel) rfl, TT_at 314 (by decide +kernel) rfl, ini_X5⟩
theorem it_X6 : Cond.instantiable RX6 9 ∈ TT := TT_at 274 (by decide +kernel) rfl
theorem ini_X6 : Cond.initialized RX6 ∈ TT := TT_at 114 (by decide +kernel) rfl
theorem mi_X6 : Cond.instanceMethod yX6_init ∈ TT ∧ Cond.code yX6_init cX6_init 1 none ∈ TT ∧ Cond.initialized RX6 ∈ TT := ⟨TT_at 276 (by decide +kernel) rfl, TT_at 277 (by decide +kernel) rfl, ini_X6⟩
theorem it_X7 : Cond.instantiable RX7 2 ∈ TT := TT_at 261 (by decide +kernel) rfl
theorem ini_X7 : Cond.initialized RX7 ∈ TT := TT_at 113 (by decide +kernel) rfl
theorem mi_X7 : Cond.instanceMethod yX7_init ∈ TT ∧ Cond.code yX7_init cX7_init 1 none ∈ TT ∧ Cond.initialized RX7 ∈ TT := ⟨TT_at 263 (by decide +kernel) rfl, TT_at 264 (by decide +kernel) rfl, ini_X7⟩
theorem it_X10 : Cond.instantiable RX10 9 ∈ TT := TT_at 125 (by decide +kernel) rfl
theorem ini_X10 : Cond.initialized RX10 ∈ TT := TT_at 108 (by decide +kernel) rfl
theorem mi_X10 : Cond.instanceMethod yX10_init ∈ TT ∧ Cond.code yX10_init cX10_init 2 none ∈ TT ∧ Cond.initialized RX10 ∈ TT := ⟨TT_at 127 (by decide +kernel) rfl, TT_at 128 (by decide +kernel) rfl, ini_X10⟩
theorem it_X11 : Cond.instantiable RX11 62 ∈ TT := TT_at 1155 (by decide +kernel) rfl
theorem ini_X11 : Cond.initialized RX11 ∈ TT := TT_at 118 (by decide +kernel) rfl
theorem mi_X11 : Cond.instanceMethod yX11_init ∈ TT ∧ Cond.code yX11_init cX11_init 2 none ∈ TT ∧ Cond.initialized RX11 ∈ TT := ⟨TT_at 1157 (by decide +kernel) rfl, TT_at 1158 (by decide +kernel) rfl, ini_X11⟩
theorem dX3_init_0 : decode cX3_init 0 = .ok (.aload_n 0, 1) := by decide +kernel
theorem dX3_init_1 : decode cX3_init 1 = .ok (.invokespecial 3, 3) := by decide +kernel
theorem dX3_init_4 : decode cX3_init 4 = .ok (.aload_n 0, 1) := by decide +kernel
theorem dX3_init_5 : decode cX3_init 5 = .ok (.bipush 14, 2) := by decide +kernel
theorem dX3_init_7 : decode cX3_init 7 = .ok (.newarray .int, 2) := by decide +kernel
theorem dX3_init_9 : decode cX3_init 9 = .ok (.putfield 9, 3) := by decide +kernel
theorem dX3_init_12 : decode cX3_init 12 = .ok (.aload_n 0, 1) := by decide +kernel
theorem dX3_init_13 : decode cX3_init 13 = .ok (.bipush 56, 2) := by decide +kernel
theorem dX3_init_15 : decode cX3_init 15 = .ok (.newarray .int, 2) := by decide +kernel
theorem dX3_init_17 : decode cX3_init 17 = .ok (.putfield 15, 3) := by decide +kernel
theorem dX3_init_20 : decode cX3_init 20 = .ok (.aload_n 0, 1) := by decide +kernel
theorem dX3_init_21 : decode cX3_init 21 = .ok (.bipush 56, 2) := by decide +kernel
theorem dX3_init_23 : decode cX3_init 23 = .ok (.newarray .int, 2) := by decide +kernel
theorem dX3_init_25 : decode cX3_init 25 = .ok (.putfield 18, 3) := by decide +kernel
theorem dX3_init_28 : decode cX3_init 28 = .ok (.aload_n 0, 1) := by decide +kernel
theorem dX3_init_29 : decode cX3_init 29 = .ok (.bipush 14, 2) := by decide +kernel
theorem dX3_init_31 : decode cX3_init 31 = .ok (.newarray .int, 2) := by decide +kernel
theorem dX3_init_33 : decode cX3_init 33 = .ok (.putfield 21, 3) := by decide +kernel
theorem dX3_init_36 : decode cX3_init 36 = .ok (.return_, 1) := by decide +kernel
set_option maxRecDepth 100000 in
set_option maxHeartbeats 4000000 in
theorem ci_Machine {l : Launch} {g : GE} {B : Nat} (hg : g.1 = fun i => B + i) {o : Nat} (ho : okM o) (e0 : Nat → va_E) : CI l g B yX3_init cX3_init 1 2 4 140 o 5 e0 (.inr (3, [.int 0, .int 0, .int 0, .null, .null, .null, .null])) := by
  refine CI.of hg pn_X3 rfl (Nat.le_of_ble_eq_true rfl) (fun Γ e hl hG hB hm X Y he hlow => ?_)
  subst hB; subst hG; subst hl
  replace X : Xc Γ cX3_init 1 RX3 2 4 140 := X
  refine (?_ : WI Γ 1 0 o 3 [.int 0, .int 0, .int 0, .null, .null, .null, .null] (o + 1) e0 0 0) e he (fun i h1 h2 => absurd h2 (by omega)) hlow
  refine wi_walk X dX3_init_0 dX3_init_1 (List.mem_of_getElem? (i := 4) rfl) (by decide) (by decide) (by decide) ?_
  refine wi_arr (n := o + 1) (t0 := 0) (ty := .int) (x := (14, .inl (fun _ => 0))) (fs' := [.int 0, .int 0, .int 0, .ref (bB Γ + (o + 1)), .null, .null, .null]) X hm (by omega) rfl in_X3 tyX3 tyX3_ok nmX3 dX3_init_4 rfl (fun _ _ _ _ _ _ h => wc_bipush X dX3_init_5 bi_14 h) dX3_init_7 dX3_init_9 ac_int rfl (fun U h => h) rfl (by decide) (by decide) (by decide) rfl (by decide) (by decide) 3 (by decide) rfl fl_X3_9 (fun _ => rfl) (fun _ => rfl) (Nat.le_of_ble_eq_true rfl) rfl (cz_i ho.2.1) ?_
  refine wi_arr (n := o + 2) (t0 := 0) (ty := .int) (x := (56, .inl (fun _ => 0))) (fs' := [.int 0, .int 0, .int 0, .ref (bB Γ + (o + 1)), .ref (bB Γ + (o + 2)), .null, .null]) X hm (by omega) rfl in_X3 tyX3 tyX3_ok nmX3 dX3_init_12 rfl (fun _ _ _ _ _ _ h => wc_bipush X dX3_init_13 bi_56 h) dX3_init_15 dX3_init_17 ac_int rfl (fun U h => h) rfl (by decide) (by decide) (by decide) rfl (by decide) (by decide) 4 (by decide) rfl fl_X3_15 (fun _ => rfl) (fun _ => rfl) (Nat.le_of_ble_eq_true rfl) rfl (cz_i ho.2.2.1) ?_
  refine wi_arr (n := o + 3) (t0 := 0) (ty := .int) (x := (56, .inl (fun _ => 0))) (fs' := [.int 0, .int 0, .int 0, .ref (bB Γ + (o + 1)), .ref (bB Γ + (o + 2)), .ref (bB Γ + (o + 3)), .null]) X hm (by omega) rfl in_X3 tyX3 tyX3_ok nmX3 dX3_init_20 rfl (fun _ _ _ _ _ _ h => wc_bipush X dX3_init_21 bi_56 h) dX3_init_23 dX3_init_25 ac_int rfl (fun U h => h) rfl (by decide) (by decide) (by decide) rfl (by decide) (by decide) 5 (by decide) rfl fl_X3_18 (fun _ => rfl) (fun _ => rfl) (Nat.le_of_ble_eq_true rfl) rfl (cz_i ho.2.2.2.1) ?_
  refine wi_arr (n := o + 4) (t0 := 0) (ty := .int) (x := (14, .inl (fun _ => 0))) (fs' := [.int 0, .int 0, .int 0, .ref (bB Γ + (o + 1)), .ref (bB Γ + (o + 2)), .ref (bB Γ + (o + 3)), .ref (bB Γ + (o + 4))]) X hm (by omega) rfl in_X3 tyX3 tyX3_ok nmX3 dX3_init_28 rfl (fun _ _ _ _ _ _ h => wc_bipush X dX3_init_29 bi_14 h) dX3_init_31 dX3_init_33 ac_int rfl (fun U h => h) rfl (by decide) (by decide) (by decide) rfl (by decide) (by decide) 6 (by decide) rfl fl_X3_21 (fun _ => rfl) (fun _ => rfl) (Nat.le_of_ble_eq_true rfl) rfl (cz_i ho.2.2.2.2) ?_
  refine wi_ret (sz := 5) X Y dX3_init_36 ?_
  rw [cz_o ho.1 (by decide), hg]
  simp [flds, I0, J0, ho.1]
theorem dX0_init_0 : decode cX0_init 0 = .ok (.aload_n 0, 1) := by decide +kernel
theorem dX0_init_1 : decode cX0_init 1 = .ok (.invokespecial 3, 3) := by decide +kernel
theorem dX0_init_4 : decode cX0_init 4 = .ok (.aload_n 0, 1) := by decide +kernel
theorem dX0_init_5 : decode cX0_init 5 = .ok (.sipush 225, 3) := by decide +kernel
theorem dX0_init_8 : decode cX0_init 8 = .ok (.newarray .int, 2) := by decide +kernel
theorem dX0_init_10 : decode cX0_init 10 = .ok (.putfield 9, 3) := by decide +kernel
theorem dX0_init_13 : decode cX0_init 13 = .ok (.aload_n 0, 1) := by decide +kernel
theorem dX0_init_14 : decode cX0_init 14 = .ok (.sipush 225, 3) := by decide +kernel
theorem dX0_init_17 : decode cX0_init 17 = .ok (.newarray .int, 2) := by decide +kernel
theorem dX0_init_19 : decode cX0_init 19 = .ok (.putfield 15, 3) := by decide +kernel
theorem dX0_init_22 : decode cX0_init 22 = .ok (.aload_n 0, 1) := by decide +kernel
theorem dX0_init_23 : decode cX0_init 23 = .ok (.sipush 512, 3) := by decide +kernel
theorem dX0_init_26 : decode cX0_init 26 = .ok (.newarray .int, 2) := by decide +kernel
theorem dX0_init_28 : decode cX0_init 28 = .ok (.putfield 18, 3) := by decide +kernel
theorem dX0_init_31 : decode cX0_init 31 = .ok (.aload_n 0, 1) := by decide +kernel
theorem dX0_init_32 : decode cX0_init 32 = .ok (.sipush 225, 3) := by decide +kernel
theorem dX0_init_35 : decode cX0_init 35 = .ok (.newarray .long, 2) := by decide +kernel
theorem dX0_init_37 : decode cX0_init 37 = .ok (.putfield 21, 3) := by decide +kernel
theorem dX0_init_40 : decode cX0_init 40 = .ok (.aload_n 0, 1) := by decide +kernel
theorem dX0_init_41 : decode cX0_init 41 = .ok (.sipush 900, 3) := by decide +kernel
theorem dX0_init_44 : decode cX0_init 44 = .ok (.newarray .int, 2) := by decide +kernel
theorem dX0_init_46 : decode cX0_init 46 = .ok (.putfield 25, 3) := by decide +kernel
theorem dX0_init_49 : decode cX0_init 49 = .ok (.aload_n 0, 1) := by decide +kernel
theorem dX0_init_50 : decode cX0_init 50 = .ok (.sipush 225, 3) := by decide +kernel
theorem dX0_init_53 : decode cX0_init 53 = .ok (.newarray .int, 2) := by decide +kernel
theorem dX0_init_55 : decode cX0_init 55 = .ok (.putfield 28, 3) := by decide +kernel
theorem dX0_init_58 : decode cX0_init 58 = .ok (.aload_n 0, 1) := by decide +kernel
theorem dX0_init_59 : decode cX0_init 59 = .ok (.sipush 225, 3) := by decide +kernel
theorem dX0_init_62 : decode cX0_init 62 = .ok (.newarray .int, 2) := by decide +kernel
theorem dX0_init_64 : decode cX0_init 64 = .ok (.putfield 31, 3) := by decide +kernel
theorem dX0_init_67 : decode cX0_init 67 = .ok (.aload_n 0, 1) := by decide +kernel
theorem dX0_init_68 : decode cX0_init 68 = .ok (.sipush 225, 3) := by decide +kernel
theorem dX0_init_71 : decode cX0_init 71 = .ok (.newarray .int, 2) := by decide +kernel
theorem dX0_init_73 : decode cX0_init 73 = .ok (.putfield 34, 3) := by decide +kernel
theorem dX0_init_76 : decode cX0_init 76 = .ok (.aload_n 0, 1) := by decide +kernel
theorem dX0_init_77 : decode cX0_init 77 = .ok (.bipush 14, 2) := by decide +kernel
theorem dX0_init_79 : decode cX0_init 79 = .ok (.newarray .int, 2) := by decide +kernel
theorem dX0_init_81 : decode cX0_init 81 = .ok (.putfield 37, 3) := by decide +kernel
theorem dX0_init_84 : decode cX0_init 84 = .ok (.return_, 1) := by decide +kernel
theorem si_900 : (Int16.ofInt 900).toInt32 = 900 := by decide
theorem mlo_X0 : Cond.methodLink RX0 3 objectInit ∈ TT := TT_at 139 (by decide +kernel) rfl
set_option maxRecDepth 100000 in
set_option maxHeartbeats 4000000 in
theorem ci_Chart {l : Launch} {g : GE} {B : Nat} (hg : g.1 = fun i => B + i) (e0 : Nat → va_E) : CI l g B yX0_init cX0_init 1 1 9 2776 2 10 e0 (.inr (0, [.int 0, .int 0, .int 0, .null, .null, .null, .null, .null, .null, .null, .null, .null])) := by
  refine CI.of hg pn_X0 rfl (Nat.le_of_ble_eq_true rfl) (fun Γ e hl hG hB hm X Y he hlow => ?_)
  subst hB; subst hG; subst hl
  replace X : Xc Γ cX0_init 1 RX0 1 9 2776 := X
  refine (?_ : WI Γ 1 0 2 0 [.int 0, .int 0, .int 0, .null, .null, .null, .null, .null, .null, .null, .null, .null] (2 + 1) e0 0 0) e he (fun i h1 h2 => absurd h2 (by omega)) hlow
  refine wi_super X dX0_init_0 dX0_init_1 mlo_X0 ow_ok (by decide) ?_
  refine wi_arr (n := 3) (t0 := 0) (ty := .int) (x := (225, .inl (fun _ => 0))) (fs' := [.int 0, .int 0, .int 0, .ref (bB Γ + (3)), .null, .null, .null, .null, .null, .null, .null, .null]) X hm (by omega) rfl in_X0 tyX0 tyX0_ok nmX0 dX0_init_4 rfl (fun _ _ _ _ _ _ h => wc_sipush X dX0_init_5 si_225 h) dX0_init_8 dX0_init_10 ac_int rfl (fun U h => h) rfl (by decide) (by decide) (by decide) rfl (by decide) (by decide) 3 (by decide) rfl fl_X0_9 (fun _ => rfl) (fun _ => rfl) (Nat.le_of_ble_eq_true rfl) rfl (cz_i sh_3) ?_
  refine wi_arr (n := 4) (t0 := 0) (ty := .int) (x := (225, .inl (fun _ => 0))) (fs' := [.int 0, .int 0, .int 0, .ref (bB Γ + (3)), .ref (bB Γ + (4)), .null, .null, .null, .null, .null, .null, .null]) X hm (by omega) rfl in_X0 tyX0 tyX0_ok nmX0 dX0_init_13 rfl (fun _ _ _ _ _ _ h => wc_sipush X dX0_init_14 si_225 h) dX0_init_17 dX0_init_19 ac_int rfl (fun U h => h) rfl (by decide) (by decide) (by decide) rfl (by decide) (by decide) 4 (by decide) rfl fl_X0_15 (fun _ => rfl) (fun _ => rfl) (Nat.le_of_ble_eq_true rfl) rfl (cz_i sh_4) ?_
  refine wi_arr (n := 5) (t0 := 0) (ty := .int) (x := (512, .inl (fun _ => 0))) (fs' := [.int 0, .int 0, .int 0, .ref (bB Γ + (3)), .ref (bB Γ + (4)), .ref (bB Γ + (5)), .null, .null, .null, .null, .null, .null]) X hm (by omega) rfl in_X0 tyX0 tyX0_ok nmX0 dX0_init_22 rfl (fun _ _ _ _ _ _ h => wc_sipush X dX0_init_23 si_512 h) dX0_init_26 dX0_init_28 ac_int rfl (fun U h => h) rfl (by decide) (by decide) (by decide) rfl (by decide) (by decide) 5 (by decide) rfl fl_X0_18 (fun _ => rfl) (fun _ => rfl) (Nat.le_of_ble_eq_true rfl) rfl (cz_i sh_5) ?_
  refine wi_arr (n := 6) (t0 := 1) (ty := .long) (x := (225, .inr (.inl (fun _ => 0)))) (fs' := [.int 0, .int 0, .int 0, .ref (bB Γ + (3)), .ref (bB Γ + (4)), .ref (bB Γ + (5)), .ref (bB Γ + (6)), .null, .null, .null, .null, .null]) X hm (by omega) rfl in_X0 tyX0 tyX0_ok nmX0 dX0_init_31 rfl (fun _ _ _ _ _ _ h => wc_sipush X dX0_init_32 si_225 h) dX0_init_35 dX0_init_37 ac_long rfl (fun U h => h) rfl (by decide) (by decide) (by decide) rfl (by decide) (by decide) 6 (by decide) rfl fl_X0_21 (fun _ => rfl) (fun _ => rfl) (Nat.le_of_ble_eq_true rfl) rfl (cz_j sh_6) ?_
  refine wi_arr (n := 7) (t0 := 0) (ty := .int) (x := (900, .inl (fun _ => 0))) (fs' := [.int 0, .int 0, .int 0, .ref (bB Γ + (3)), .ref (bB Γ + (4)), .ref (bB Γ + (5)), .ref (bB Γ + (6)), .ref (bB Γ + (7)), .null, .null, .null, .null]) X hm (by omega) rfl in_X0 tyX0 tyX0_ok nmX0 dX0_init_40 rfl (fun _ _ _ _ _ _ h => wc_sipush X dX0_init_41 si_900 h) dX0_init_44 dX0_init_46 ac_int rfl (fun U h => h) rfl (by decide) (by decide) (by decide) rfl (by decide) (by decide) 7 (by decide) rfl fl_X0_25 (fun _ => rfl) (fun _ => rfl) (Nat.le_of_ble_eq_true rfl) rfl (cz_i sh_7) ?_
  refine wi_arr (n := 8) (t0 := 0) (ty := .int) (x := (225, .inl (fun _ => 0))) (fs' := [.int 0, .int 0, .int 0, .ref (bB Γ + (3)), .ref (bB Γ + (4)), .ref (bB Γ + (5)), .ref (bB Γ + (6)), .ref (bB Γ + (7)), .ref (bB Γ + (8)), .null, .null, .null]) X hm (by omega) rfl in_X0 tyX0 tyX0_ok nmX0 dX0_init_49 rfl (fun _ _ _ _ _ _ h => wc_sipush X dX0_init_50 si_225 h) dX0_init_53 dX0_init_55 ac_int rfl (fun U h => h) rfl (by decide) (by decide) (by decide) rfl (by decide) (by decide) 8 (by decide) rfl fl_X0_28 (fun _ => rfl) (fun _ => rfl) (Nat.le_of_ble_eq_true rfl) rfl (cz_i sh_8) ?_
  refine wi_arr (n := 9) (t0 := 0) (ty := .int) (x := (225, .inl (fun _ => 0))) (fs' := [.int 0, .int 0, .int 0, .ref (bB Γ + (3)), .ref (bB Γ + (4)), .ref (bB Γ + (5)), .ref (bB Γ + (6)), .ref (bB Γ + (7)), .ref (bB Γ + (8)), .ref (bB Γ + (9)), .null, .null]) X hm (by omega) rfl in_X0 tyX0 tyX0_ok nmX0 dX0_init_58 rfl (fun _ _ _ _ _ _ h => wc_sipush X dX0_init_59 si_225 h) dX0_init_62 dX0_init_64 ac_int rfl (fun U h => h) rfl (by decide) (by decide) (by decide) rfl (by decide) (by decide) 9 (by decide) rfl fl_X0_31 (fun _ => rfl) (fun _ => rfl) (Nat.le_of_ble_eq_true rfl) rfl (cz_i sh_9) ?_
  refine wi_arr (n := 10) (t0 := 0) (ty := .int) (x := (225, .inl (fun _ => 0))) (fs' := [.int 0, .int 0, .int 0, .ref (bB Γ + (3)), .ref (bB Γ + (4)), .ref (bB Γ + (5)), .ref (bB Γ + (6)), .ref (bB Γ + (7)), .ref (bB Γ + (8)), .ref (bB Γ + (9)), .ref (bB Γ + (10)), .null]) X hm (by omega) rfl in_X0 tyX0 tyX0_ok nmX0 dX0_init_67 rfl (fun _ _ _ _ _ _ h => wc_sipush X dX0_init_68 si_225 h) dX0_init_71 dX0_init_73 ac_int rfl (fun U h => h) rfl (by decide) (by decide) (by decide) rfl (by decide) (by decide) 10 (by decide) rfl fl_X0_34 (fun _ => rfl) (fun _ => rfl) (Nat.le_of_ble_eq_true rfl) rfl (cz_i sh_10) ?_
  refine wi_arr (n := 11) (t0 := 0) (ty := .int) (x := (14, .inl (fun _ => 0))) (fs' := [.int 0, .int 0, .int 0, .ref (bB Γ + (3)), .ref (bB Γ + (4)), .ref (bB Γ + (5)), .ref (bB Γ + (6)), .ref (bB Γ + (7)), .ref (bB Γ + (8)), .ref (bB Γ + (9)), .ref (bB Γ + (10)), .ref (bB Γ + (11))]) X hm (by omega) rfl in_X0 tyX0 tyX0_ok nmX0 dX0_init_76 rfl (fun _ _ _ _ _ _ h => wc_bipush X dX0_init_77 bi_14 h) dX0_init_79 dX0_init_81 ac_int rfl (fun U h => h) rfl (by decide) (by decide) (by decide) rfl (by decide) (by decide) 11 (by decide) rfl fl_X0_37 (fun _ => rfl) (fun _ => rfl) (Nat.le_of_ble_eq_true rfl) rfl (cz_i sh_11) ?_
  refine wi_ret (sz := 10) X Y dX0_init_84 ?_
  rw [cz_o sh_2 (by decide), hg]
  simp [flds, I0, J0, sh_2]
theorem dX7_init_0 : decode cX7_init 0 = .ok (.aload_n 0, 1) := by decide +kernel
theorem dX7_init_1 : decode cX7_init 1 = .ok (.invokespecial 3, 3) := by decide +kernel
theorem dX7_init_4 : decode cX7_init 4 = .ok (.aload_n 0, 1) := by decide +kernel
theorem dX7_init_5 : decode cX7_init 5 = .ok (.sipush 1736, 3) := by decide +kernel
theorem dX7_init_8 : decode cX7_init 8 = .ok (.newarray .long, 2) := by decide +kernel
theorem dX7_init_10 : decode cX7_init 10 = .ok (.putfield 9, 3) := by decide +kernel
theorem dX7_init_13 : decode cX7_init 13 = .ok (.aload_n 0, 1) := by decide +kernel
theorem dX7_init_14 : decode cX7_init 14 = .ok (.sipush 224, 3) := by decide +kernel
theorem dX7_init_17 : decode cX7_init 17 = .ok (.newarray .int, 2) := by decide +kernel
theorem dX7_init_19 : decode cX7_init 19 = .ok (.putfield 15, 3) := by decide +kernel
theorem dX7_init_22 : decode cX7_init 22 = .ok (.return_, 1) := by decide +kernel
theorem si_1736 : (Int16.ofInt 1736).toInt32 = 1736 := by decide
theorem mlo_X7 : Cond.methodLink RX7 3 objectInit ∈ TT := TT_at 265 (by decide +kernel) rfl
set_option maxRecDepth 100000 in
set_option maxHeartbeats 4000000 in
theorem ci_Tally {l : Launch} {g : GE} {B : Nat} (hg : g.1 = fun i => B + i) (e0 : Nat → va_E) : CI l g B yX7_init cX7_init 1 1 2 1960 23 3 e0 (.inr (7, [.null, .null])) := by
  refine CI.of hg pn_X7 rfl (Nat.le_of_ble_eq_true rfl) (fun Γ e hl hG hB hm X Y he hlow => ?_)
  subst hB; subst hG; subst hl
  replace X : Xc Γ cX7_init 1 RX7 1 2 1960 := X
  refine (?_ : WI Γ 1 0 23 7 [.null, .null] (23 + 1) e0 0 0) e he (fun i h1 h2 => absurd h2 (by omega)) hlow
  refine wi_super X dX7_init_0 dX7_init_1 mlo_X7 ow_ok (by decide) ?_
  refine wi_arr (n := 24) (t0 := 1) (ty := .long) (x := (1736, .inr (.inl (fun _ => 0)))) (fs' := [.ref (bB Γ + (24)), .null]) X hm (by omega) rfl in_X7 tyX7 tyX7_ok nmX7 dX7_init_4 rfl (fun _ _ _ _ _ _ h => wc_sipush X dX7_init_5 si_1736 h) dX7_init_8 dX7_init_10 ac_long rfl (fun U h => h) rfl (by decide) (by decide) (by decide) rfl (by decide) (by decide) 0 (by decide) rfl fl_X7_9 (fun _ => rfl) (fun _ => rfl) (Nat.le_of_ble_eq_true rfl) rfl (cz_j sh_24) ?_
  refine wi_arr (n := 25) (t0 := 0) (ty := .int) (x := (224, .inl (fun _ => 0))) (fs' := [.ref (bB Γ + (24)), .ref (bB Γ + (25))]) X hm (by omega) rfl in_X7 tyX7 tyX7_ok nmX7 dX7_init_13 rfl (fun _ _ _ _ _ _ h => wc_sipush X dX7_init_14 si_224 h) dX7_init_17 dX7_init_19 ac_int rfl (fun U h => h) rfl (by decide) (by decide) (by decide) rfl (by decide) (by decide) 1 (by decide) rfl fl_X7_15 (fun _ => rfl) (fun _ => rfl) (Nat.le_of_ble_eq_true rfl) rfl (cz_i sh_25) ?_
  refine wi_ret (sz := 3) X Y dX7_init_22 ?_
  rw [cz_o sh_23 (by decide), hg]
  simp [flds, I0, J0, sh_23]
theorem dX2_init_0 : decode cX2_init 0 = .ok (.aload_n 0, 1) := by decide +kernel
theorem dX2_init_1 : decode cX2_init 1 = .ok (.invokespecial 3, 3) := by decide +kernel
theorem dX2_init_4 : decode cX2_init 4 = .ok (.aload_n 0, 1) := by decide +kernel
theorem dX2_init_5 : decode cX2_init 5 = .ok (.bipush 12, 2) := by decide +kernel
theorem dX2_init_7 : decode cX2_init 7 = .ok (.newarray .long, 2) := by decide +kernel
theorem dX2_init_9 : decode cX2_init 9 = .ok (.putfield 9, 3) := by decide +kernel
theorem dX2_init_12 : decode cX2_init 12 = .ok (.aload_n 0, 1) := by decide +kernel
theorem dX2_init_13 : decode cX2_init 13 = .ok (.bipush 12, 2) := by decide +kernel
theorem dX2_init_15 : decode cX2_init 15 = .ok (.newarray .int, 2) := by decide +kernel
theorem dX2_init_17 : decode cX2_init 17 = .ok (.putfield 15, 3) := by decide +kernel
theorem dX2_init_20 : decode cX2_init 20 = .ok (.aload_n 0, 1) := by decide +kernel
theorem dX2_init_21 : decode cX2_init 21 = .ok (.bipush 12, 2) := by decide +kernel
theorem dX2_init_23 : decode cX2_init 23 = .ok (.newarray .int, 2) := by decide +kernel
theorem dX2_init_25 : decode cX2_init 25 = .ok (.putfield 19, 3) := by decide +kernel
theorem dX2_init_28 : decode cX2_init 28 = .ok (.aload_n 0, 1) := by decide +kernel
theorem dX2_init_29 : decode cX2_init 29 = .ok (.bipush 12, 2) := by decide +kernel
theorem dX2_init_31 : decode cX2_init 31 = .ok (.newarray .int, 2) := by decide +kernel
theorem dX2_init_33 : decode cX2_init 33 = .ok (.putfield 22, 3) := by decide +kernel
theorem dX2_init_36 : decode cX2_init 36 = .ok (.aload_n 0, 1) := by decide +kernel
theorem dX2_init_37 : decode cX2_init 37 = .ok (.bipush 12, 2) := by decide +kernel
theorem dX2_init_39 : decode cX2_init 39 = .ok (.newarray .int, 2) := by decide +kernel
theorem dX2_init_41 : decode cX2_init 41 = .ok (.putfield 25, 3) := by decide +kernel
theorem dX2_init_44 : decode cX2_init 44 = .ok (.aload_n 0, 1) := by decide +kernel
theorem dX2_init_45 : decode cX2_init 45 = .ok (.bipush 12, 2) := by decide +kernel
theorem dX2_init_47 : decode cX2_init 47 = .ok (.newarray .int, 2) := by decide +kernel
theorem dX2_init_49 : decode cX2_init 49 = .ok (.putfield 28, 3) := by decide +kernel
theorem dX2_init_52 : decode cX2_init 52 = .ok (.aload_n 0, 1) := by decide +kernel
theorem dX2_init_53 : decode cX2_init 53 = .ok (.bipush 56, 2) := by decide +kernel
theorem dX2_init_55 : decode cX2_init 55 = .ok (.newarray .int, 2) := by decide +kernel
theorem dX2_init_57 : decode cX2_init 57 = .ok (.putfield 31, 3) := by decide +kernel
theorem dX2_init_60 : decode cX2_init 60 = .ok (.return_, 1) := by decide +kernel
theorem mlo_X2 : Cond.methodLink RX2 3 objectInit ∈ TT := TT_at 370 (by decide +kernel) rfl
set_option maxRecDepth 100000 in
set_option maxHeartbeats 4000000 in
theorem ci_Known {l : Launch} {g : GE} {B : Nat} (hg : g.1 = fun i => B + i) (e0 : Nat → va_E) : CI l g B yX2_init cX2_init 1 1 7 128 52 8 e0 (.inr (2, [.int 0, .null, .null, .null, .null, .null, .null, .null])) := by
  refine CI.of hg pn_X2 rfl (Nat.le_of_ble_eq_true rfl) (fun Γ e hl hG hB hm X Y he hlow => ?_)
  subst hB; subst hG; subst hl
  replace X : Xc Γ cX2_init 1 RX2 1 7 128 := X
  refine (?_ : WI Γ 1 0 52 2 [.int 0, .null, .null, .null, .null, .null, .null, .null] (52 + 1) e0 0 0) e he (fun i h1 h2 => absurd h2 (by omega)) hlow
  refine wi_super X dX2_init_0 dX2_init_1 mlo_X2 ow_ok (by decide) ?_
  refine wi_arr (n := 53) (t0 := 1) (ty := .long) (x := (12, .inr (.inl (fun _ => 0)))) (fs' := [.int 0, .ref (bB Γ + (53)), .null, .null, .null, .null, .null, .null]) X hm (by omega) rfl in_X2 tyX2 tyX2_ok nmX2 dX2_init_4 rfl (fun _ _ _ _ _ _ h => wc_bipush X dX2_init_5 bi_12 h) dX2_init_7 dX2_init_9 ac_long rfl (fun U h => h) rfl (by decide) (by decide) (by decide) rfl (by decide) (by decide) 1 (by decide) rfl fl_X2_9 (fun _ => rfl) (fun _ => rfl) (Nat.le_of_ble_eq_true rfl) rfl (cz_j sh_53) ?_
  refine wi_arr (n := 54) (t0 := 0) (ty := .int) (x := (12, .inl (fun _ => 0))) (fs' := [.int 0, .ref (bB Γ + (53)), .ref (bB Γ + (54)), .null, .null, .null, .null, .null]) X hm (by omega) rfl in_X2 tyX2 tyX2_ok nmX2 dX2_init_12 rfl (fun _ _ _ _ _ _ h => wc_bipush X dX2_init_13 bi_12 h) dX2_init_15 dX2_init_17 ac_int rfl (fun U h => h) rfl (by decide) (by decide) (by decide) rfl (by decide) (by decide) 2 (by decide) rfl fl_X2_15 (fun _ => rfl) (fun _ => rfl) (Nat.le_of_ble_eq_true rfl) rfl (cz_i sh_54) ?_
  refine wi_arr (n := 55) (t0 := 0) (ty := .int) (x := (12, .inl (fun _ => 0))) (fs' := [.int 0, .ref (bB Γ + (53)), .ref (bB Γ + (54)), .ref (bB Γ + (55)), .null, .null, .null, .null]) X hm (by omega) rfl in_X2 tyX2 tyX2_ok nmX2 dX2_init_20 rfl (fun _ _ _ _ _ _ h => wc_bipush X dX2_init_21 bi_12 h) dX2_init_23 dX2_init_25 ac_int rfl (fun U h => h) rfl (by decide) (by decide) (by decide) rfl (by decide) (by decide) 3 (by decide) rfl fl_X2_19 (fun _ => rfl) (fun _ => rfl) (Nat.le_of_ble_eq_true rfl) rfl (cz_i sh_55) ?_
  refine wi_arr (n := 56) (t0 := 0) (ty := .int) (x := (12, .inl (fun _ => 0))) (fs' := [.int 0, .ref (bB Γ + (53)), .ref (bB Γ + (54)), .ref (bB Γ + (55)), .ref (bB Γ + (56)), .null, .null, .null]) X hm (by omega) rfl in_X2 tyX2 tyX2_ok nmX2 dX2_init_28 rfl (fun _ _ _ _ _ _ h => wc_bipush X dX2_init_29 bi_12 h) dX2_init_31 dX2_init_33 ac_int rfl (fun U h => h) rfl (by decide) (by decide) (by decide) rfl (by decide) (by decide) 4 (by decide) rfl fl_X2_22 (fun _ => rfl) (fun _ => rfl) (Nat.le_of_ble_eq_true rfl) rfl (cz_i sh_56) ?_
  refine wi_arr (n := 57) (t0 := 0) (ty := .int) (x := (12, .inl (fun _ => 0))) (fs' := [.int 0, .ref (bB Γ + (53)), .ref (bB Γ + (54)), .ref (bB Γ + (55)), .ref (bB Γ + (56)), .ref (bB Γ + (57)), .null, .null]) X hm (by omega) rfl in_X2 tyX2 tyX2_ok nmX2 dX2_init_36 rfl (fun _ _ _ _ _ _ h => wc_bipush X dX2_init_37 bi_12 h) dX2_init_39 dX2_init_41 ac_int rfl (fun U h => h) rfl (by decide) (by decide) (by decide) rfl (by decide) (by decide) 5 (by decide) rfl fl_X2_25 (fun _ => rfl) (fun _ => rfl) (Nat.le_of_ble_eq_true rfl) rfl (cz_i sh_57) ?_
  refine wi_arr (n := 58) (t0 := 0) (ty := .int) (x := (12, .inl (fun _ => 0))) (fs' := [.int 0, .ref (bB Γ + (53)), .ref (bB Γ + (54)), .ref (bB Γ + (55)), .ref (bB Γ + (56)), .ref (bB Γ + (57)), .ref (bB Γ + (58)), .null]) X hm (by omega) rfl in_X2 tyX2 tyX2_ok nmX2 dX2_init_44 rfl (fun _ _ _ _ _ _ h => wc_bipush X dX2_init_45 bi_12 h) dX2_init_47 dX2_init_49 ac_int rfl (fun U h => h) rfl (by decide) (by decide) (by decide) rfl (by decide) (by decide) 6 (by decide) rfl fl_X2_28 (fun _ => rfl) (fun _ => rfl) (Nat.le_of_ble_eq_true rfl) rfl (cz_i sh_58) ?_
  refine wi_arr (n := 59) (t0 := 0) (ty := .int) (x := (56, .inl (fun _ => 0))) (fs' := [.int 0, .ref (bB Γ + (53)), .ref (bB Γ + (54)), .ref (bB Γ + (55)), .ref (bB Γ + (56)), .ref (bB Γ + (57)), .ref (bB Γ + (58)), .ref (bB Γ + (59))]) X hm (by omega) rfl in_X2 tyX2 tyX2_ok nmX2 dX2_init_52 rfl (fun _ _ _ _ _ _ h => wc_bipush X dX2_init_53 bi_56 h) dX2_init_55 dX2_init_57 ac_int rfl (fun U h => h) rfl (by decide) (by decide) (by decide) rfl (by decide) (by decide) 7 (by decide) rfl fl_X2_31 (fun _ => rfl) (fun _ => rfl) (Nat.le_of_ble_eq_true rfl) rfl (cz_i sh_59) ?_
  refine wi_ret (sz := 8) X Y dX2_init_60 ?_
  rw [cz_o sh_52 (by decide), hg]
  simp [flds, I0, J0, sh_52]
theorem dX1_init_0 : decode cX1_init 0 = .ok (.aload_n 0, 1) := by decide +kernel
theorem dX1_init_1 : decode cX1_init 1 = .ok (.invokespecial 3, 3) := by decide +kernel
theorem dX1_init_4 : decode cX1_init 4 = .ok (.aload_n 0, 1) := by decide +kernel
theorem dX1_init_5 : decode cX1_init 5 = .ok (.new 9, 3) := by decide +kernel
theorem dX1_init_8 : decode cX1_init 8 = .ok (.dup, 1) := by decide +kernel
theorem dX1_init_9 : decode cX1_init 9 = .ok (.invokespecial 11, 3) := by decide +kernel
theorem dX1_init_12 : decode cX1_init 12 = .ok (.putfield 12, 3) := by decide +kernel
theorem dX1_init_15 : decode cX1_init 15 = .ok (.aload_n 0, 1) := by decide +kernel
theorem dX1_init_16 : decode cX1_init 16 = .ok (.new 9, 3) := by decide +kernel
theorem dX1_init_19 : decode cX1_init 19 = .ok (.dup, 1) := by decide +kernel
theorem dX1_init_20 : decode cX1_init 20 = .ok (.invokespecial 11, 3) := by decide +kernel
theorem dX1_init_23 : decode cX1_init 23 = .ok (.putfield 18, 3) := by decide +kernel
theorem dX1_init_26 : decode cX1_init 26 = .ok (.return_, 1) := by decide +kernel
theorem ck_X1_9 : Cond.classLink RX1 9 RX3 ∈ TT := TT_at 188 (by decide +kernel) rfl
set_option maxRecDepth 100000 in
set_option maxHeartbeats 4000000 in
theorem ci_Joining {l : Launch} {g : GE} {B : Nat} (hg : g.1 = fun i => B + i) (e0 : Nat → va_E) : CI l g B yX1_init cX1_init 1 3 10 294 12 11 e0 (.inr (1, [.null, .null, .int 0, .int 0, .int 0])) := by
  refine CI.of hg pn_X1 rfl (Nat.le_of_ble_eq_true rfl) (fun Γ e hl hG hB hm X Y he hlow => ?_)
  subst hB; subst hG; subst hl
  replace X : Xc Γ cX1_init 1 RX1 3 10 294 := X
  refine (?_ : WI Γ 1 0 12 1 [.null, .null, .int 0, .int 0, .int 0] (12 + 1) e0 0 0) e he (fun i h1 h2 => absurd h2 (by omega)) hlow
  refine wi_walk X dX1_init_0 dX1_init_1 (List.mem_of_getElem? (i := 2) rfl) (by decide) (by decide) (by decide) ?_
  refine wi_obj (C := RX3) (T' := TX3) (N' := 7) (n := 13) (fs' := [.ref (bB Γ + (13)), .null, .int 0, .int 0, .int 0]) (fs0 := [.int 0, .int 0, .int 0, .null, .null, .null, .null]) X hm (by omega) rfl in_X1 tyX1 tyX1_ok nmX1 dX1_init_4 dX1_init_5 dX1_init_8 dX1_init_9 dX1_init_12 ck_X1_9 it_X3 ini_X3 in_X3 tyX3 tyX3_ok rfl (by decide) (List.mem_of_getElem? (i := 3) rfl) mi_X3 rfl rfl (by decide +kernel) (by decide) (fun e => ci_Machine hg okM_13 e) (by decide) (by decide) (by decide) 0 (by decide) rfl fl_X1_12 (fun _ => rfl) (fun _ => rfl) (Nat.le_of_ble_eq_true rfl) rfl ?_ (by decide)
  refine wi_obj (C := RX3) (T' := TX3) (N' := 7) (n := 18) (fs' := [.ref (bB Γ + (13)), .ref (bB Γ + (18)), .int 0, .int 0, .int 0]) (fs0 := [.int 0, .int 0, .int 0, .null, .null, .null, .null]) X hm (by omega) rfl in_X1 tyX1 tyX1_ok nmX1 dX1_init_15 dX1_init_16 dX1_init_19 dX1_init_20 dX1_init_23 ck_X1_9 it_X3 ini_X3 in_X3 tyX3 tyX3_ok rfl (by decide) (List.mem_of_getElem? (i := 3) rfl) mi_X3 rfl rfl (by decide +kernel) (by decide) (fun e => ci_Machine hg okM_18 e) (by decide) (by decide) (by decide) 1 (by decide) rfl fl_X1_18 (fun _ => rfl) (fun _ => rfl) (Nat.le_of_ble_eq_true rfl) rfl ?_ (by decide)
  refine wi_ret (sz := 11) X Y dX1_init_26 ?_
  rw [cz_o sh_12 (by decide), hg]
  simp [flds, I0, J0, sh_12]
theorem dX6_init_0 : decode cX6_init 0 = .ok (.aload_n 0, 1) := by decide +kernel
theorem dX6_init_1 : decode cX6_init 1 = .ok (.invokespecial 3, 3) := by decide +kernel
theorem dX6_init_4 : decode cX6_init 4 = .ok (.aload_n 0, 1) := by decide +kernel
theorem dX6_init_5 : decode cX6_init 5 = .ok (.new 9, 3) := by decide +kernel
theorem dX6_init_8 : decode cX6_init 8 = .ok (.dup, 1) := by decide +kernel
theorem dX6_init_9 : decode cX6_init 9 = .ok (.invokespecial 11, 3) := by decide +kernel
theorem dX6_init_12 : decode cX6_init 12 = .ok (.putfield 12, 3) := by decide +kernel
theorem dX6_init_15 : decode cX6_init 15 = .ok (.aload_n 0, 1) := by decide +kernel
theorem dX6_init_16 : decode cX6_init 16 = .ok (.bipush 6, 2) := by decide +kernel
theorem dX6_init_18 : decode cX6_init 18 = .ok (.newarray .long, 2) := by decide +kernel
theorem dX6_init_20 : decode cX6_init 20 = .ok (.putfield 18, 3) := by decide +kernel
theorem dX6_init_23 : decode cX6_init 23 = .ok (.aload_n 0, 1) := by decide +kernel
theorem dX6_init_24 : decode cX6_init 24 = .ok (.sipush 175, 3) := by decide +kernel
theorem dX6_init_27 : decode cX6_init 27 = .ok (.newarray .long, 2) := by decide +kernel
theorem dX6_init_29 : decode cX6_init 29 = .ok (.putfield 22, 3) := by decide +kernel
theorem dX6_init_32 : decode cX6_init 32 = .ok (.aload_n 0, 1) := by decide +kernel
theorem dX6_init_33 : decode cX6_init 33 = .ok (.bipush 13, 2) := by decide +kernel
theorem dX6_init_35 : decode cX6_init 35 = .ok (.newarray .long, 2) := by decide +kernel
theorem dX6_init_37 : decode cX6_init 37 = .ok (.putfield 25, 3) := by decide +kernel
theorem dX6_init_40 : decode cX6_init 40 = .ok (.aload_n 0, 1) := by decide +kernel
theorem dX6_init_41 : decode cX6_init 41 = .ok (.bipush 6, 2) := by decide +kernel
theorem dX6_init_43 : decode cX6_init 43 = .ok (.newarray .long, 2) := by decide +kernel
theorem dX6_init_45 : decode cX6_init 45 = .ok (.putfield 28, 3) := by decide +kernel
theorem dX6_init_48 : decode cX6_init 48 = .ok (.aload_n 0, 1) := by decide +kernel
theorem dX6_init_49 : decode cX6_init 49 = .ok (.sipush 2048, 3) := by decide +kernel
theorem dX6_init_52 : decode cX6_init 52 = .ok (.newarray .long, 2) := by decide +kernel
theorem dX6_init_54 : decode cX6_init 54 = .ok (.putfield 31, 3) := by decide +kernel
theorem dX6_init_57 : decode cX6_init 57 = .ok (.return_, 1) := by decide +kernel
theorem mlo_X6 : Cond.methodLink RX6 3 objectInit ∈ TT := TT_at 278 (by decide +kernel) rfl
theorem ck_X6_9 : Cond.classLink RX6 9 RX3 ∈ TT := TT_at 279 (by decide +kernel) rfl
set_option maxRecDepth 100000 in
set_option maxHeartbeats 4000000 in
theorem ci_Suite {l : Launch} {g : GE} {B : Nat} (hg : g.1 = fun i => B + i) (e0 : Nat → va_E) : CI l g B yX6_init cX6_init 1 3 10 2395 26 11 e0 (.inr (6, [.null, .int 0, .int 0, .int 0, .null, .null, .null, .null, .null])) := by
  refine CI.of hg pn_X6 rfl (Nat.le_of_ble_eq_true rfl) (fun Γ e hl hG hB hm X Y he hlow => ?_)
  subst hB; subst hG; subst hl
  replace X : Xc Γ cX6_init 1 RX6 3 10 2395 := X
  refine (?_ : WI Γ 1 0 26 6 [.null, .int 0, .int 0, .int 0, .null, .null, .null, .null, .null] (26 + 1) e0 0 0) e he (fun i h1 h2 => absurd h2 (by omega)) hlow
  refine wi_super X dX6_init_0 dX6_init_1 mlo_X6 ow_ok (by decide) ?_
  refine wi_obj (C := RX3) (T' := TX3) (N' := 7) (n := 27) (fs' := [.ref (bB Γ + (27)), .int 0, .int 0, .int 0, .null, .null, .null, .null, .null]) (fs0 := [.int 0, .int 0, .int 0, .null, .null, .null, .null]) X hm (by omega) rfl in_X6 tyX6 tyX6_ok nmX6 dX6_init_4 dX6_init_5 dX6_init_8 dX6_init_9 dX6_init_12 ck_X6_9 it_X3 ini_X3 in_X3 tyX3 tyX3_ok rfl (by decide) (List.mem_of_getElem? (i := 7) rfl) mi_X3 rfl rfl (by decide +kernel) (by decide) (fun e => ci_Machine hg okM_27 e) (by decide) (by decide) (by decide) 0 (by decide) rfl fl_X6_12 (fun _ => rfl) (fun _ => rfl) (Nat.le_of_ble_eq_true rfl) rfl ?_ (by decide)
  refine wi_arr (n := 32) (t0 := 1) (ty := .long) (x := (6, .inr (.inl (fun _ => 0)))) (fs' := [.ref (bB Γ + (27)), .int 0, .int 0, .int 0, .ref (bB Γ + (32)), .null, .null, .null, .null]) X hm (by omega) rfl in_X6 tyX6 tyX6_ok nmX6 dX6_init_15 rfl (fun _ _ _ _ _ _ h => wc_bipush X dX6_init_16 bi_6 h) dX6_init_18 dX6_init_20 ac_long rfl (fun U h => h) rfl (by decide) (by decide) (by decide) rfl (by decide) (by decide) 4 (by decide) rfl fl_X6_18 (fun _ => rfl) (fun _ => rfl) (Nat.le_of_ble_eq_true rfl) rfl (cz_j sh_32) ?_
  refine wi_arr (n := 33) (t0 := 1) (ty := .long) (x := (175, .inr (.inl (fun _ => 0)))) (fs' := [.ref (bB Γ + (27)), .int 0, .int 0, .int 0, .ref (bB Γ + (32)), .ref (bB Γ + (33)), .null, .null, .null]) X hm (by omega) rfl in_X6 tyX6 tyX6_ok nmX6 dX6_init_23 rfl (fun _ _ _ _ _ _ h => wc_sipush X dX6_init_24 si_175 h) dX6_init_27 dX6_init_29 ac_long rfl (fun U h => h) rfl (by decide) (by decide) (by decide) rfl (by decide) (by decide) 5 (by decide) rfl fl_X6_22 (fun _ => rfl) (fun _ => rfl) (Nat.le_of_ble_eq_true rfl) rfl (cz_j sh_33) ?_
  refine wi_arr (n := 34) (t0 := 1) (ty := .long) (x := (13, .inr (.inl (fun _ => 0)))) (fs' := [.ref (bB Γ + (27)), .int 0, .int 0, .int 0, .ref (bB Γ + (32)), .ref (bB Γ + (33)), .ref (bB Γ + (34)), .null, .null]) X hm (by omega) rfl in_X6 tyX6 tyX6_ok nmX6 dX6_init_32 rfl (fun _ _ _ _ _ _ h => wc_bipush X dX6_init_33 bi_13 h) dX6_init_35 dX6_init_37 ac_long rfl (fun U h => h) rfl (by decide) (by decide) (by decide) rfl (by decide) (by decide) 6 (by decide) rfl fl_X6_25 (fun _ => rfl) (fun _ => rfl) (Nat.le_of_ble_eq_true rfl) rfl (cz_j sh_34) ?_
  refine wi_arr (n := 35) (t0 := 1) (ty := .long) (x := (6, .inr (.inl (fun _ => 0)))) (fs' := [.ref (bB Γ + (27)), .int 0, .int 0, .int 0, .ref (bB Γ + (32)), .ref (bB Γ + (33)), .ref (bB Γ + (34)), .ref (bB Γ + (35)), .null]) X hm (by omega) rfl in_X6 tyX6 tyX6_ok nmX6 dX6_init_40 rfl (fun _ _ _ _ _ _ h => wc_bipush X dX6_init_41 bi_6 h) dX6_init_43 dX6_init_45 ac_long rfl (fun U h => h) rfl (by decide) (by decide) (by decide) rfl (by decide) (by decide) 7 (by decide) rfl fl_X6_28 (fun _ => rfl) (fun _ => rfl) (Nat.le_of_ble_eq_true rfl) rfl (cz_j sh_35) ?_
  refine wi_arr (n := 36) (t0 := 1) (ty := .long) (x := (2048, .inr (.inl (fun _ => 0)))) (fs' := [.ref (bB Γ + (27)), .int 0, .int 0, .int 0, .ref (bB Γ + (32)), .ref (bB Γ + (33)), .ref (bB Γ + (34)), .ref (bB Γ + (35)), .ref (bB Γ + (36))]) X hm (by omega) rfl in_X6 tyX6 tyX6_ok nmX6 dX6_init_48 rfl (fun _ _ _ _ _ _ h => wc_sipush X dX6_init_49 si_2048 h) dX6_init_52 dX6_init_54 ac_long rfl (fun U h => h) rfl (by decide) (by decide) (by decide) rfl (by decide) (by decide) 8 (by decide) rfl fl_X6_31 (fun _ => rfl) (fun _ => rfl) (Nat.le_of_ble_eq_true rfl) rfl (cz_j sh_36) ?_
  refine wi_ret (sz := 11) X Y dX6_init_57 ?_
  rw [cz_o sh_26 (by decide), hg]
  simp [flds, I0, J0, sh_26]
theorem dX5_init_0 : decode cX5_init 0 = .ok (.aload_n 0, 1) := by decide +kernel
theorem dX5_init_1 : decode cX5_init 1 = .ok (.invokespecial 3, 3) := by decide +kernel
theorem dX5_init_4 : decode cX5_init 4 = .ok (.aload_n 0, 1) := by decide +kernel
theorem dX5_init_5 : decode cX5_init 5 = .ok (.new 9, 3) := by decide +kernel
theorem dX5_init_8 : decode cX5_init 8 = .ok (.dup, 1) := by decide +kernel
theorem dX5_init_9 : decode cX5_init 9 = .ok (.invokespecial 11, 3) := by decide +kernel
theorem dX5_init_12 : decode cX5_init 12 = .ok (.putfield 12, 3) := by decide +kernel
theorem dX5_init_15 : decode cX5_init 15 = .ok (.aload_n 0, 1) := by decide +kernel
theorem dX5_init_16 : decode cX5_init 16 = .ok (.new 9, 3) := by decide +kernel
theorem dX5_init_19 : decode cX5_init 19 = .ok (.dup, 1) := by decide +kernel
theorem dX5_init_20 : decode cX5_init 20 = .ok (.invokespecial 11, 3) := by decide +kernel
theorem dX5_init_23 : decode cX5_init 23 = .ok (.putfield 18, 3) := by decide +kernel
theorem dX5_init_26 : decode cX5_init 26 = .ok (.aload_n 0, 1) := by decide +kernel
theorem dX5_init_27 : decode cX5_init 27 = .ok (.bipush 14, 2) := by decide +kernel
theorem dX5_init_29 : decode cX5_init 29 = .ok (.newarray .long, 2) := by decide +kernel
theorem dX5_init_31 : decode cX5_init 31 = .ok (.putfield 21, 3) := by decide +kernel
theorem dX5_init_34 : decode cX5_init 34 = .ok (.aload_n 0, 1) := by decide +kernel
theorem dX5_init_35 : decode cX5_init 35 = .ok (.bipush 14, 2) := by decide +kernel
theorem dX5_init_37 : decode cX5_init 37 = .ok (.newarray .long, 2) := by decide +kernel
theorem dX5_init_39 : decode cX5_init 39 = .ok (.putfield 25, 3) := by decide +kernel
theorem dX5_init_42 : decode cX5_init 42 = .ok (.aload_n 0, 1) := by decide +kernel
theorem dX5_init_43 : decode cX5_init 43 = .ok (.bipush 14, 2) := by decide +kernel
theorem dX5_init_45 : decode cX5_init 45 = .ok (.newarray .int, 2) := by decide +kernel
theorem dX5_init_47 : decode cX5_init 47 = .ok (.putfield 28, 3) := by decide +kernel
theorem dX5_init_50 : decode cX5_init 50 = .ok (.aload_n 0, 1) := by decide +kernel
theorem dX5_init_51 : decode cX5_init 51 = .ok (.sipush 196, 3) := by decide +kernel
theorem dX5_init_54 : decode cX5_init 54 = .ok (.newarray .int, 2) := by decide +kernel
theorem dX5_init_56 : decode cX5_init 56 = .ok (.putfield 32, 3) := by decide +kernel
theorem dX5_init_59 : decode cX5_init 59 = .ok (.return_, 1) := by decide +kernel
theorem si_196 : (Int16.ofInt 196).toInt32 = 196 := by decide
theorem mlo_X5 : Cond.methodLink RX5 3 objectInit ∈ TT := TT_at 315 (by decide +kernel) rfl
theorem ck_X5_9 : Cond.classLink RX5 9 RX3 ∈ TT := TT_at 316 (by decide +kernel) rfl
set_option maxRecDepth 100000 in
set_option maxHeartbeats 4000000 in
theorem ci_Pupil {l : Launch} {g : GE} {B : Nat} (hg : g.1 = fun i => B + i) (e0 : Nat → va_E) : CI l g B yX5_init cX5_init 1 3 14 532 37 15 e0 (.inr (5, [.int 0, .int 0, .int 0, .int 0, .int 0, .long 0, .null, .null, .null, .null, .null, .null])) := by
  refine CI.of hg pn_X5 rfl (Nat.le_of_ble_eq_true rfl) (fun Γ e hl hG hB hm X Y he hlow => ?_)
  subst hB; subst hG; subst hl
  replace X : Xc Γ cX5_init 1 RX5 3 14 532 := X
  refine (?_ : WI Γ 1 0 37 5 [.int 0, .int 0, .int 0, .int 0, .int 0, .long 0, .null, .null, .null, .null, .null, .null] (37 + 1) e0 0 0) e he (fun i h1 h2 => absurd h2 (by omega)) hlow
  refine wi_super X dX5_init_0 dX5_init_1 mlo_X5 ow_ok (by decide) ?_
  refine wi_obj (C := RX3) (T' := TX3) (N' := 7) (n := 38) (fs' := [.int 0, .int 0, .int 0, .int 0, .int 0, .long 0, .ref (bB Γ + (38)), .null, .null, .null, .null, .null]) (fs0 := [.int 0, .int 0, .int 0, .null, .null, .null, .null]) X hm (by omega) rfl in_X5 tyX5 tyX5_ok nmX5 dX5_init_4 dX5_init_5 dX5_init_8 dX5_init_9 dX5_init_12 ck_X5_9 it_X3 ini_X3 in_X3 tyX3 tyX3_ok rfl (by decide) (List.mem_of_getElem? (i := 9) rfl) mi_X3 rfl rfl (by decide +kernel) (by decide) (fun e => ci_Machine hg okM_38 e) (by decide) (by decide) (by decide) 6 (by decide) rfl fl_X5_12 (fun _ => rfl) (fun _ => rfl) (Nat.le_of_ble_eq_true rfl) rfl ?_ (by decide)
  refine wi_obj (C := RX3) (T' := TX3) (N' := 7) (n := 43) (fs' := [.int 0, .int 0, .int 0, .int 0, .int 0, .long 0, .ref (bB Γ + (38)), .ref (bB Γ + (43)), .null, .null, .null, .null]) (fs0 := [.int 0, .int 0, .int 0, .null, .null, .null, .null]) X hm (by omega) rfl in_X5 tyX5 tyX5_ok nmX5 dX5_init_15 dX5_init_16 dX5_init_19 dX5_init_20 dX5_init_23 ck_X5_9 it_X3 ini_X3 in_X3 tyX3 tyX3_ok rfl (by decide) (List.mem_of_getElem? (i := 9) rfl) mi_X3 rfl rfl (by decide +kernel) (by decide) (fun e => ci_Machine hg okM_43 e) (by decide) (by decide) (by decide) 7 (by decide) rfl fl_X5_18 (fun _ => rfl) (fun _ => rfl) (Nat.le_of_ble_eq_true rfl) rfl ?_ (by decide)
  refine wi_arr (n := 48) (t0 := 1) (ty := .long) (x := (14, .inr (.inl (fun _ => 0)))) (fs' := [.int 0, .int 0, .int 0, .int 0, .int 0, .long 0, .ref (bB Γ + (38)), .ref (bB Γ + (43)), .ref (bB Γ + (48)), .null, .null, .null]) X hm (by omega) rfl in_X5 tyX5 tyX5_ok nmX5 dX5_init_26 rfl (fun _ _ _ _ _ _ h => wc_bipush X dX5_init_27 bi_14 h) dX5_init_29 dX5_init_31 ac_long rfl (fun U h => h) rfl (by decide) (by decide) (by decide) rfl (by decide) (by decide) 8 (by decide) rfl fl_X5_21 (fun _ => rfl) (fun _ => rfl) (Nat.le_of_ble_eq_true rfl) rfl (cz_j sh_48) ?_
  refine wi_arr (n := 49) (t0 := 1) (ty := .long) (x := (14, .inr (.inl (fun _ => 0)))) (fs' := [.int 0, .int 0, .int 0, .int 0, .int 0, .long 0, .ref (bB Γ + (38)), .ref (bB Γ + (43)), .ref (bB Γ + (48)), .ref (bB Γ + (49)), .null, .null]) X hm (by omega) rfl in_X5 tyX5 tyX5_ok nmX5 dX5_init_34 rfl (fun _ _ _ _ _ _ h => wc_bipush X dX5_init_35 bi_14 h) dX5_init_37 dX5_init_39 ac_long rfl (fun U h => h) rfl (by decide) (by decide) (by decide) rfl (by decide) (by decide) 9 (by decide) rfl fl_X5_25 (fun _ => rfl) (fun _ => rfl) (Nat.le_of_ble_eq_true rfl) rfl (cz_j sh_49) ?_
  refine wi_arr (n := 50) (t0 := 0) (ty := .int) (x := (14, .inl (fun _ => 0))) (fs' := [.int 0, .int 0, .int 0, .int 0, .int 0, .long 0, .ref (bB Γ + (38)), .ref (bB Γ + (43)), .ref (bB Γ + (48)), .ref (bB Γ + (49)), .ref (bB Γ + (50)), .null]) X hm (by omega) rfl in_X5 tyX5 tyX5_ok nmX5 dX5_init_42 rfl (fun _ _ _ _ _ _ h => wc_bipush X dX5_init_43 bi_14 h) dX5_init_45 dX5_init_47 ac_int rfl (fun U h => h) rfl (by decide) (by decide) (by decide) rfl (by decide) (by decide) 10 (by decide) rfl fl_X5_28 (fun _ => rfl) (fun _ => rfl) (Nat.le_of_ble_eq_true rfl) rfl (cz_i sh_50) ?_
  refine wi_arr (n := 51) (t0 := 0) (ty := .int) (x := (196, .inl (fun _ => 0))) (fs' := [.int 0, .int 0, .int 0, .int 0, .int 0, .long 0, .ref (bB Γ + (38)), .ref (bB Γ + (43)), .ref (bB Γ + (48)), .ref (bB Γ + (49)), .ref (bB Γ + (50)), .ref (bB Γ + (51))]) X hm (by omega) rfl in_X5 tyX5 tyX5_ok nmX5 dX5_init_50 rfl (fun _ _ _ _ _ _ h => wc_sipush X dX5_init_51 si_196 h) dX5_init_54 dX5_init_56 ac_int rfl (fun U h => h) rfl (by decide) (by decide) (by decide) rfl (by decide) (by decide) 11 (by decide) rfl fl_X5_32 (fun _ => rfl) (fun _ => rfl) (Nat.le_of_ble_eq_true rfl) rfl (cz_i sh_51) ?_
  refine wi_ret (sz := 15) X Y dX5_init_59 ?_
  rw [cz_o sh_37 (by decide), hg]
  simp [flds, I0, J0, sh_37]
theorem dX4_init_0 : decode cX4_init 0 = .ok (.aload_n 0, 1) := by decide +kernel
theorem dX4_init_1 : decode cX4_init 1 = .ok (.invokespecial 3, 3) := by decide +kernel
theorem dX4_init_4 : decode cX4_init 4 = .ok (.aload_n 0, 1) := by decide +kernel
theorem dX4_init_5 : decode cX4_init 5 = .ok (.iconst (-1), 1) := by decide +kernel
theorem dX4_init_6 : decode cX4_init 6 = .ok (.putfield 9, 3) := by decide +kernel
theorem dX4_init_9 : decode cX4_init 9 = .ok (.aload_n 0, 1) := by decide +kernel
theorem dX4_init_10 : decode cX4_init 10 = .ok (.new 15, 3) := by decide +kernel
theorem dX4_init_13 : decode cX4_init 13 = .ok (.dup, 1) := by decide +kernel
theorem dX4_init_14 : decode cX4_init 14 = .ok (.invokespecial 17, 3) := by decide +kernel
theorem dX4_init_17 : decode cX4_init 17 = .ok (.putfield 18, 3) := by decide +kernel
theorem dX4_init_20 : decode cX4_init 20 = .ok (.aload_n 0, 1) := by decide +kernel
theorem dX4_init_21 : decode cX4_init 21 = .ok (.bipush 8, 2) := by decide +kernel
theorem dX4_init_23 : decode cX4_init 23 = .ok (.newarray .long, 2) := by decide +kernel
theorem dX4_init_25 : decode cX4_init 25 = .ok (.putfield 22, 3) := by decide +kernel
theorem dX4_init_28 : decode cX4_init 28 = .ok (.return_, 1) := by decide +kernel
theorem mlo_X4 : Cond.methodLink RX4 3 objectInit ∈ TT := TT_at 403 (by decide +kernel) rfl
theorem ck_X4_15 : Cond.classLink RX4 15 RX3 ∈ TT := TT_at 404 (by decide +kernel) rfl
set_option maxRecDepth 100000 in
set_option maxHeartbeats 4000000 in
theorem ci_Place {l : Launch} {g : GE} {B : Nat} (hg : g.1 = fun i => B + i) {o : Nat} (ho : okP o) (e0 : Nat → va_E) : CI l g B yX4_init cX4_init 1 3 6 155 o 7 e0 (.inr (4, [.int 0, .null, .int 0, .int 0, .null, .int 0, .int 0])) := by
  refine CI.of hg pn_X4 rfl (Nat.le_of_ble_eq_true rfl) (fun Γ e hl hG hB hm X Y he hlow => ?_)
  subst hB; subst hG; subst hl
  replace X : Xc Γ cX4_init 1 RX4 3 6 155 := X
  refine (?_ : WI Γ 1 0 o 4 [.int 0, .null, .int 0, .int 0, .null, .int 0, .int 0] (o + 1) e0 0 0) e he (fun i h1 h2 => absurd h2 (by omega)) hlow
  refine wi_super X dX4_init_0 dX4_init_1 mlo_X4 ow_ok (by decide) ?_
  refine wi_int (fs' := [.int (-1), .null, .int 0, .int 0, .null, .int 0, .int 0]) X hm (by omega) rfl in_X4 tyX4 tyX4_ok nmX4 dX4_init_4 dX4_init_5 ic_m1 dX4_init_6 0 (by decide) rfl fl_X4_9 rfl rfl (Nat.le_of_ble_eq_true rfl) rfl ?_
  refine wi_obj (C := RX3) (T' := TX3) (N' := 7) (n := o + 1) (fs' := [.int (-1), .ref (bB Γ + (o + 1)), .int 0, .int 0, .null, .int 0, .int 0]) (fs0 := [.int 0, .int 0, .int 0, .null, .null, .null, .null]) X hm (by omega) rfl in_X4 tyX4 tyX4_ok nmX4 dX4_init_9 dX4_init_10 dX4_init_13 dX4_init_14 dX4_init_17 ck_X4_15 it_X3 ini_X3 in_X3 tyX3 tyX3_ok rfl (by decide) (List.mem_of_getElem? (i := 13) rfl) mi_X3 rfl rfl (by decide +kernel) (by decide) (fun e => ci_Machine hg ho.2.1 e) (by decide) (by decide) (by decide) 1 (by decide) rfl fl_X4_18 (fun _ => rfl) (fun _ => rfl) (Nat.le_of_ble_eq_true rfl) rfl ?_ (by decide)
  refine wi_arr (n := o + 6) (t0 := 1) (ty := .long) (x := (8, .inr (.inl (fun _ => 0)))) (fs' := [.int (-1), .ref (bB Γ + (o + 1)), .int 0, .int 0, .ref (bB Γ + (o + 6)), .int 0, .int 0]) X hm (by omega) rfl in_X4 tyX4 tyX4_ok nmX4 dX4_init_20 rfl (fun _ _ _ _ _ _ h => wc_bipush X dX4_init_21 bi_8 h) dX4_init_23 dX4_init_25 ac_long rfl (fun U h => h) rfl (by decide) (by decide) (by decide) rfl (by decide) (by decide) 4 (by decide) rfl fl_X4_22 (fun _ => rfl) (fun _ => rfl) (Nat.le_of_ble_eq_true rfl) rfl (cz_j ho.2.2) ?_
  refine wi_ret (sz := 7) X Y dX4_init_28 ?_
  rw [cz_o ho.1 (by decide), hg]
  simp [flds, I0, J0, ho.1]
