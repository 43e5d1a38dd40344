theorem ck_L_7 : Cond.classLink RL 7 RX10 ∈ TT := TT_at 124 (by decide +kernel) rfl
theorem ck_L_10 : Cond.classLink RL 10 RX11 ∈ TT := TT_at 1154 (by decide +kernel) rfl
theorem ml_L_9 : Cond.methodLink RL 9 yX10_init ∈ TT := TT_at 126 (by decide +kernel) rfl
theorem ml_L_12 : Cond.methodLink RL 12 yX11_init ∈ TT := TT_at 1156 (by decide +kernel) rfl
theorem dk_1 : Cond.declares ⟨RX8, "firstKey", "()I"⟩ ∈ lw_tbl := List.mem_of_getElem? (i := 715) (by decide +kernel)
theorem dk_2 : Cond.declares ⟨RX8, "nextKey", "(II)I"⟩ ∈ lw_tbl := List.mem_of_getElem? (i := 750) (by decide +kernel)
theorem dk_3 : Cond.declares ⟨RX8, "answerAt", "(I)I"⟩ ∈ lw_tbl := List.mem_of_getElem? (i := 739) (by decide +kernel)
theorem ao_k : Cond.arrayOver (.object RX4) ∈ lw_tbl := List.mem_of_getElem? (i := 133) (by decide +kernel)
theorem TT_sub {w : Cond} (h : w ∈ TT) : w ∈ lw_tbl := (List.mem_filter.mp h).1
set_option maxHeartbeats 4000000 in
/-- the reference's constructor, called by the law -/
theorem wc_initM {Γ : Cty} {nL d pc mC mS cells slots : Nat} {L : List (Nat × Value)} {st : List Value} {e : Nat → va_E} {x0 : va_E} (X : Xc Γ code nL RL d mC mS) (hd : decode code pc = .ok (.invokespecial 12, 3)) (hM : CJ (bL Γ) (bG Γ) (bB Γ) 43 17655 (va_up e 177 x0) x0) (hrest : (st.map fun v => v.category).sum ≤ 8) (hdd : 1 + 1 ≤ d) (hc1 : cells + 43 ≤ mC) (hc2 : slots + 17655 ≤ mS)
    (k : ∀ e' : Nat → va_E, (∀ i, 177 ≤ i → i < 221 → e' i = cz1 (bG Γ) i) → (∀ i, i < 177 → e' i = e i) → Wc Γ nL (pc + 3) L st 221 e' (cells + 43) (slots + 17655)) : Wc Γ nL pc L (.ref (bB Γ + 177) :: st) (177 + 1) (va_up e 177 x0) cells slots := by
  obtain ⟨p, l, ev, R, s, m, args, below, meth, c, Q, g, B⟩ := Γ
  obtain ⟨hxe, hb, hml, hown, hts, hK, hNK, hB, hfr, hlo, hce, hsl, hg⟩ := X
  obtain ⟨w1, w2, w3⟩ := mi_X11
  intro H locs ls hP hS hz hl
  have hpar : ∀ sig, parseMethodDescriptor yX11_init.desc = some sig → 0 = sig.parameters.length := par_len (by decide +kernel)
  have hpre : PreS s H (fun v U => v = #[.ref (B + 177)] ∧ (∃ e1 : Nat → va_E, e1 177 = x0 ∧ (∀ i, i < 177 → e1 i = va_up e 177 x0 i) ∧ va_P g.2.1 vwCl (wl B (177 + 1) e1) U.heap) ∧ U.heap.size = B + (177 + 1) ∧ KG g U ∧ NK U ∧ B ≤ U.heap.size) ([.ref (B + 177)]) := by
    refine ⟨fun a U f mk h => ⟨h.1, h.2.1, h.2.2.1, KG.moved (u := U) (U := U.calling f mk a) (Vm.Alike.refl U.vm) h.2.2.2.1, NK.same (s := U) (U := U.calling f mk a) rfl h.2.2.2.2.1, h.2.2.2.2.2⟩, fun U hU hW => ⟨rfl, ⟨va_up e 177 x0, va_up_self _ _ _, fun _ _ => rfl, by rw [hU]; exact hP⟩, by rw [hU]; exact hz, KG.moved hW.alike hK, NK.warm hW hNK, by rw [hU, hz]; omega⟩⟩
  have hrun := va_runI (g := F0 m pc ls (.ref (B + 177) :: st)) (H := H) (locs := locs) (cells := cells) (slots := slots) (below := below) (meth := meth) (e := ev) (n := 0) (As := []) (rest := st) (bytes := cX11_init) (maxL := 2) ⟨hxe, hb, hml, hown, hts⟩ hM ⟨⟨rfl, rfl, Nat.le_trans hdd hfr, by show 8 + (2 + 11) + 45 * 1 ≤ R.locals; omega, TT_warm hts w2, List.mem_cons_self, hts _ w2, hts _ w3, by decide +kernel, hpar, hts _ ml_L_12⟩, rfl, hts _ w1⟩ hpre rfl rfl hl.1 rfl (lv_room hrest) hd ⟨Nat.le_trans hc1 hce, Nat.le_trans hc2 hsl⟩
  intro T hT X
  obtain ⟨v, st₀, t, T', L1, h0, X', hL, e1, e2, ⟨⟨hv, ⟨e', g1, g2, g3⟩, gz⟩, hzz, hk⟩, stp⟩ := hrun T hT X
  cases hv
  rw [h0] at hzz hk
  obtain ⟨t2, a1, b1⟩ := k e' g1 (fun i hi => by rw [g2 i hi, va_up_ne _ _ (by omega)]) T'.heap (locs ++ L1) ls (by rw [e1]; exact g3)
    ⟨Nat.le_trans hS.1 (by rw [e1]; exact hzz), fun q h1 h2 => by rw [e1, hk q (Nat.lt_of_lt_of_le h1 hS.1) h2]; exact hS.2.1 q h1 h2, fun q hq => by
      rcases List.mem_append.mp hq with h | h
      · exact hS.2.2 q h
      · exact hL q h⟩ (by rw [e1]; exact gz) hl T' rfl X'
  exact ⟨t2, stp t2 a1, b1⟩
theorem kn_all {s : State} {args : Array Value} (hts : ∀ w ∈ TT, w.before args s = true) : ∀ k : Nat, ∃ q : ClassId × (Nat → Nat), ∀ r : vw_C, vwCl[k]? = some r → u_Kn s r.1 r.2.1 r.2.2 q.1 q.2 := by
  intro k
  match k with
  | 0 =>
    obtain ⟨c, iS, h⟩ := u_known (C := RX0) (T := TX0) (N := 12) (n := 12) hts in_X0 (hts _ it_X0)
    exact ⟨(c, iS), fun r hr => by cases hr; exact h⟩
  | 1 =>
    obtain ⟨c, iS, h⟩ := u_known (C := RX1) (T := TX1) (N := 5) (n := 5) hts in_X1 (hts _ it_X1)
    exact ⟨(c, iS), fun r hr => by cases hr; exact h⟩
  | 2 =>
    obtain ⟨c, iS, h⟩ := u_known (C := RX2) (T := TX2) (N := 8) (n := 8) hts in_X2 (hts _ it_X2)
    exact ⟨(c, iS), fun r hr => by cases hr; exact h⟩
  | 3 =>
    obtain ⟨c, iS, h⟩ := u_known (C := RX3) (T := TX3) (N := 7) (n := 7) hts in_X3 (hts _ it_X3)
    exact ⟨(c, iS), fun r hr => by cases hr; exact h⟩
  | 4 =>
    obtain ⟨c, iS, h⟩ := u_known (C := RX4) (T := TX4) (N := 7) (n := 7) hts in_X4 (hts _ it_X4)
    exact ⟨(c, iS), fun r hr => by cases hr; exact h⟩
  | 5 =>
    obtain ⟨c, iS, h⟩ := u_known (C := RX5) (T := TX5) (N := 12) (n := 12) hts in_X5 (hts _ it_X5)
    exact ⟨(c, iS), fun r hr => by cases hr; exact h⟩
  | 6 =>
    obtain ⟨c, iS, h⟩ := u_known (C := RX6) (T := TX6) (N := 9) (n := 9) hts in_X6 (hts _ it_X6)
    exact ⟨(c, iS), fun r hr => by cases hr; exact h⟩
  | 7 =>
    obtain ⟨c, iS, h⟩ := u_known (C := RX7) (T := TX7) (N := 2) (n := 2) hts in_X7 (hts _ it_X7)
    exact ⟨(c, iS), fun r hr => by cases hr; exact h⟩
  | 8 =>
    obtain ⟨c, iS, h⟩ := u_known (C := RX10) (T := TX10) (N := 9) (n := 9) hts in_X10 (hts _ it_X10)
    exact ⟨(c, iS), fun r hr => by cases hr; exact h⟩
  | 9 =>
    obtain ⟨c, iS, h⟩ := u_known (C := RX11) (T := TX11) (N := 62) (n := 62) hts in_X11 (hts _ it_X11)
    exact ⟨(c, iS), fun r hr => by cases hr; exact h⟩
  | k + 10 => exact ⟨(0, fun _ => 0), fun r hr => by simp [vwCl] at hr⟩
theorem arr_ok {s : State} {args : Array Value} {ty : FieldType} (h : (Cond.arrayClass ty).before args s = true) : ∃ cA : ClassId, ArrOfT s cA ty ∧ s.vm.findClass ("[" ++ ty.toString) = some cA := by
  obtain ⟨cA, kA, comp, h1, h2, h3⟩ := Cond.arrayClass_spec h
  exact ⟨cA, fun n z => ⟨fun k h => (by cases h), kA, h2, comp, h3⟩, h1⟩
theorem wc_wp {p : Program} {l : Launch} {ev : Env} {R : Room} {s : State} {m : MethodId} {args : Array Value} {below : List Frame} {meth : Method} {c : Code} {Q : State → Prop} {g : GE} {B : Nat} {nL pc : Nat} {L : List (Nat × Value)} {st : List Value} {e : Nat → va_E} {cells slots : Nat} (hg : g.1 = fun i => B + i) (h : ∀ i, i < 221 → e i = cz1 g i) (k : Wp (p, l, ev, R, s, m, args, below, meth, c, cells, slots, Q, (fun q => B ≤ q), g) nL pc L st I1 J0) : Wc (p, l, ev, R, s, m, args, below, meth, c, Q, g, B) nL pc L st 221 e cells slots := by
  intro H locs ls hP hS hz hl
  exact k H locs ls (by rw [← wl_wd hg (fun i hi => h i hi)]; exact hP) hS hl
set_option maxRecDepth 100000 in
set_option maxHeartbeats 8000000 in
theorem whole_open (HP : ∀ (L : Nat) (xs : Nat → Int32), L ≤ 3072 → f_law L xs I1 J0) {p : Program} {e : Env} {s : State} {m : MethodId} {below : List Frame} {meth : Method} {c : Code} (l : Launch) {b L : Nat} {xs : Nat → Int32} (hL : L ≤ 3072) (C0 : lw_At p s m meth c b L xs) : W p l e room_1 s m #[Value.ref b] below meth c s.heap [] 0 0 (lw_Z below #[Value.ref b] s) (entryFrame m ([Value.ref b] : List Value).toArray 4) := by
  obtain ⟨hx, hb, hr, hml, hown, hts0, hX, hbl, hlocks, hgv⟩ := id C0
  have hts : ∀ w ∈ TT, w.before #[Value.ref b] s = true := fun w hw => hts0 w (TT_sub hw)
  obtain ⟨cI, aI, fI⟩ := arr_ok (hts _ ac_int)
  obtain ⟨cJ, aJ, fJ⟩ := arr_ok (hts _ ac_long)
  obtain ⟨cZ, aZ, fZ⟩ := arr_ok (hts _ ac_boolean)
  have hAO : va_AO RX4 s := va_AO.of (hts0 _ ao_k)
  obtain ⟨comp, cP, kP, h1, h2, h3, h4, h5⟩ := Cond.arrayOver_spec hAO
  have hkn := kn_all hts
  let q : Nat → ClassId × (Nat → Nat) := fun k => Classical.choose (hkn k)
  have hq : ∀ k, ∀ r : vw_C, vwCl[k]? = some r → u_Kn s r.1 r.2.1 r.2.2 (q k).1 (q k).2 := fun k => Classical.choose_spec (hkn k)
  let g : GE := (fun i => s.heap.size + i, (fun k => (q k).1, fun k => (q k).2), cI, cJ, cZ, cP)
  have hK : KG g s := by
    refine ⟨⟨fun k r hr => hq k r hr, fun k r hr => ?_⟩, va_Nw.of rfl (hts0 _ dk_1), va_Nw.of rfl (hts0 _ dk_2), va_Nw.of rfl (hts0 _ dk_3)⟩
    match k, hr with
    | 0, hr => cases hr; exact ⟨aI, fI⟩
    | 1, hr => cases hr; exact ⟨aJ, fJ⟩
    | 2, hr => cases hr; exact ⟨aZ, fZ⟩
    | 3, hr => cases hr; exact ⟨fun n z => ⟨fun k h => (by cases h), kP, h3, comp, h4⟩, kP, comp, h3, h4, h1, h5⟩
    | k + 4, hr => simp [tysG] at hr
  have hN : NK s := by
    refine ⟨fun w hw => ?_, hAO⟩
    have hb2 := hts0 w (nestL_tbl w hw)
    obtain ⟨a, i, x, h, rfl⟩ := nestL_is w hw
    exact va_Nw.of rfl hb2
  have hg : g.1 = fun i => s.heap.size + i := rfl
  have X : Xc (p, l, e, room_1, s, m, #[Value.ref b], below, meth, c, lw_Z below #[Value.ref b] s, g, s.heap.size) code 4 RL 10 600000 7302250 := ⟨hx, hb, hml, hown, hts, hK, hN, Nat.le_refl _, by decide, by decide, Nat.le_refl _, Nat.le_refl _, hg⟩
  have hl := lv_entry ([.ref b]) (n := 4) (Nat.le_of_ble_eq_true rfl)
  rw [lg_entry_eq]
  have key : Wc (p, l, e, room_1, s, m, #[Value.ref b], below, meth, c, lw_Z below #[Value.ref b] s, g, s.heap.size) 4 0 [(0, .ref b)] [] 0 (fun _ => .inr (0, [])) 0 0 := by
    refine wc_new (ci := 8) (C := RX10) (T := TX10) (N := 9) (fs := [.null, .null, .null, .null, .null, .null, .null, .null, .int 0]) X dL_law_0 ck_L_7 it_X10 ini_X10 in_X10 tyX10 tyX10_ok rfl (by decide) (by decide) (by decide) ?_
    refine wc_dup X dL_law_3 rfl ?_
    refine wc_init X dL_law_4 (Or.inr ml_L_9) mi_X10 rfl rfl (by decide +kernel) (by decide) (ci_School hg _) (Nat.le_of_ble_eq_true rfl) (by decide) (by decide) (by decide) (fun e1 g1 g2 => ?_)
    refine wc_astore_n (i := 1) (L' := [(1, .ref (s.heap.size + 0)), (0, .ref b)]) X dL_law_7 rfl (by decide) rfl ?_
    refine wc_new (ci := 9) (C := RX11) (T := TX11) (N := 62) (fs := [.null, .null, .null, .null, .null, .null, .null, .null, .null, .null, .null, .null, .null, .int 0, .int 0, .int 0, .int 0, .null, .null, .null, .null, .null, .null, .null, .null, .null, .int 0, .null, .null, .null, .null, .null, .int 0, .null, .null, .null, .null, .null, .null, .int 0, .int 0, .null, .int 0, .null, .null, .null, .int 0, .int 0, .int 0, .int 0, .int 0, .null, .null, .int 0, .int 0, .long 0, .int 0, .null, .null, .int 0, .null, .null]) X dL_law_8 ck_L_10 it_X11 ini_X11 in_X11 tyX11 tyX11_ok rfl (by decide) (by decide) (by decide) ?_
    refine wc_dup X dL_law_11 rfl ?_
    refine wc_initM X dL_law_12 (ci_Model hg _) (Nat.le_of_ble_eq_true rfl) (by decide) (by decide) (by decide) (fun e2 k1 k2 => ?_)
    refine wc_astore_n (i := 2) (L' := [(2, .ref (s.heap.size + 177)), (1, .ref (s.heap.size + 0)), (0, .ref b)]) X dL_law_15 rfl (by decide) rfl ?_
    refine wc_sub [2, 1, 0] rfl ?_
    refine wc_wp hg (fun i hi => ?_) ?_
    · by_cases h : 177 ≤ i
      · exact k1 i h hi
      · rw [k2 i (by omega), g1 i (by omega) (by omega)]
        unfold cz cz1
        congr 1
        funext k
        simp [I1, show i ≠ 178 by omega]
    · refine w_law_b16 (Γ := (p, l, e, room_1, s, m, #[Value.ref b], below, meth, c, _, _, lw_Z below #[Value.ref b] s, (fun q => s.heap.size ≤ q), g)) (xs := xs) (L := L) ⟨hx, hb, hml, hown, hts, hK, fun i j _ _ h => ?_, fun i _ => ?_, by decide, by decide, by decide, by decide⟩ ⟨rfl, rfl, rfl, hr, hlocks, rfl, by decide, by decide⟩ ⟨hX, hbl, Nat.not_le.mpr hbl⟩ (HP L xs hL)
      · have h' : s.heap.size + i = s.heap.size + j := h
        omega
      · show s.heap.size ≤ s.heap.size + i
        omega
  exact key s.heap [] _ (fun k q h => by simp [wl] at h) va_S.rf rfl hl
