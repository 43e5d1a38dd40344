/-! Contracts over the fixed world; calls, returns, what the JDK does itself. -/
def Ag (g : GE) : Nat → Prop := fun q => ∃ i, i < NC ∧ q = g.1 i
def Inj (g : GE) : Prop := ∀ i j, i < NC → j < NC → g.1 i = g.1 j → i = j
abbrev PT : Type := Option Value → MI → MJ → Prop
def QcOf (g : GE) (Post : PT) : Array Value → State → Outcome → State → Prop := fun _ st oc t => (∃ (v : Option Value) (I : MI) (J : MJ), oc = .returned v ∧ Post v I J ∧ va_P g.2.1 vwCl (wd g I J) t.heap ∧ KG g t) ∧ va_F (Ag g) st t
def PcOf (g : GE) (As : List Value) (I : MI) (J : MJ) : Array Value → State → Prop := fun v U => v = As.toArray ∧ va_P g.2.1 vwCl (wd g I J) U.heap ∧ KG g U
def Cm (l : Launch) (g : GE) (y : MethodName) (cc : ByteArray) (maxL : Nat) (ret : Option FieldType) (d : Nat) (As : List Value) (I : MI) (J : MJ) (Post : PT) : Prop := Met l y (.code y cc maxL ret :: TT) (rmd d) (PcOf g As I J) (QcOf g Post) 0 0 (Ag g)
def Rt (Γ : Ctx) (Post : PT) (rt : Option FieldType) : Prop := match Γ with
  | (p, l, e, R, s, m, args, below, meth, c, cells, slots, Q, A, g) => Q = MQ below (QcOf g Post) args s cells slots A ∧ meth.sig.returnType = rt ∧ meth.locks = false ∧ A = Ag g
def Pi (Q : Int32 → MI → MJ → Prop) : PT := fun v I J => ∃ r, v = some (.int r) ∧ Q r I J
def Pl (Q : Int64 → MI → MJ → Prop) : PT := fun v I J => ∃ r, v = some (.long r) ∧ Q r I J
def Pv (Q : MI → MJ → Prop) : PT := fun v I J => v = none ∧ Q I J
def Pq (ad : Nat → Nat) (Q : Option Nat → MI → MJ → Prop) : PT := fun v I J => ∃ r, v = some (rfN ad r) ∧ Q r I J
theorem Pc_blind {g : GE} {As : List Value} {I : MI} {J : MJ} : FrameBlind (PcOf g As I J) := fun a U f mk h => ⟨h.1, h.2.1, KG.moved (u := U) (U := U.calling f mk a) (Vm.Alike.refl U.vm) h.2.2⟩
set_option maxHeartbeats 4000000 in
theorem Cm.of {l : Launch} {g : GE} {y : MethodName} {cc : ByteArray} {maxL d : Nat} {ret : Option FieldType} {As : (Nat → Nat) → List Value} {I : MI} {J : MJ} {Post : PT} (hinj : Inj g) (hy : plainName y.cls = true) (hlen : (lg_sl (As g.1)).length ≤ maxL)
    (body : ∀ Γ : Ctx, cxL Γ = l → cxG Γ = g → Cx Γ cc maxL y.cls d → Rt Γ Post ret → Wp Γ maxL 0 (lv_args 0 (As (ad Γ))) [] I J) : Cm l g y cc maxL ret d (As g.1) I J Post := by
  refine Met.ofW (cc := cc) (maxL := maxL) (ret := ret) hy rfl ?_
  intro p e s m args below meth c s₁ B hml hv
  obtain ⟨rfl, hP, hK⟩ := hv
  have hts := atoms_spec (ws := Cond.code y cc maxL ret :: TT) B.pre
  have hown : s.vm.findClass y.cls = some m.cls := findClass_of_methodNamed B.named
  have hl := lv_entry (As g.1) (n := maxL) hlen
  rw [lg_entry_eq]
  exact body (p, l, e, (headSpec (Cond.code y cc maxL ret :: TT) (rmd d)).room, s, m, (As g.1).toArray, below, meth, c, 0, 0, MQ below (QcOf g Post) (As g.1).toArray s 0 0 (Ag g), Ag g, g) rfl rfl
    ⟨B.exec, B.bytes, hml, hown, fun w hw => hts w (List.mem_cons_of_mem _ hw), hK, hinj, fun i hi => ⟨i, hi, rfl⟩, Nat.le_refl _, Nat.le_refl _, Nat.zero_le _, Nat.zero_le _⟩
    ⟨rfl, B.returns, B.notSynchronized, rfl⟩ s.heap [] _ hP va_S.rf hl
theorem Cx.inj {Γ : Ctx} {cc : ByteArray} {nL d : Nat} {own : String} (X : Cx Γ cc nL own d) : Inj (cxG Γ) := by
  obtain ⟨p, l, e, R, s, m, args, below, meth, c, cells, slots, Q, A, g⟩ := Γ
  exact X.2.2.2.2.2.2.1
section CG
variable {p : Program} {l : Launch} {e : Env} {R : Room} {s : State} {m : MethodId} {args : Array Value} {below : List Frame} {meth : Method} {c : Code} {H : Heap} {locs : List Loc} {cells slots : Nat} {Q : State → Prop}
variable {pc : Nat} {ls : Array Slot} {rest st0 : List Value} {a : Array Value} {A0 : Nat → Prop} {H0 : Heap}
theorem va_callG {g : GE} {Post : PT} (hr : va_Run p l e R s m args below meth c H locs cells slots 0 0 (F0 m pc ls st0) rest (QcOf g Post a) (Ag g)) (hS : va_S A0 H0 H locs) (hA : ∀ q, Ag g q → A0 q)
    (kk : ∀ (v : Option Value) (I : MI) (J : MJ) (H1 : Heap) (locs1 : List Loc), Post v I J → va_P g.2.1 vwCl (wd g I J) H1 → va_S A0 H0 H1 locs1 → W p l e R s m args below meth c H1 locs1 cells slots Q (F0 m (pc + 3) ls (v.toList ++ rest))) : W p l e R s m args below meth c H locs cells slots Q (F0 m pc ls st0) := by
  intro T hT X
  obtain ⟨v, st₀, t, T', L, h0, X', hL, e1, e2, ⟨⟨v', I, J, hv, hp, hb, hk'⟩, hz, hk⟩, st⟩ := hr T hT X
  cases hv
  rw [h0] at hz hk
  obtain ⟨t2, a1, b1⟩ := kk v I J T'.heap (locs ++ L) hp (by rw [e1]; exact hb)
    ⟨Nat.le_trans hS.1 (by rw [e1]; exact hz), fun q h1 h2 => by rw [e1, hk q (Nat.lt_of_lt_of_le h1 hS.1) (fun z => h2 (hA q z))]; exact hS.2.1 q h1 h2, fun q hq => by
      rcases List.mem_append.mp hq with h | h
      · exact hS.2.2 q h
      · exact hA _ (hL q h)⟩ T' rfl X'
  exact ⟨t2, st t2 a1, b1⟩
end CG
/-- a method's own words -/
def MV (y : MethodName) (bytes : ByteArray) (maxL : Nat) (ret : Option FieldType) (n : Nat) : Prop := Cond.instanceMethod y ∈ TT ∧ Cond.selects y.cls y y ∈ TT ∧ Cond.code y bytes maxL ret ∈ TT ∧ Cond.initialized y.cls ∈ TT ∧ (y.cls ≠ "java/lang/invoke/MethodHandle" ∧ y.cls ≠ "java/lang/invoke/VarHandle") ∧ (parseMethodDescriptor y.desc).map (fun d => d.parameters.length) = some n ∧ maxL ≤ 26
def MS (y : MethodName) (bytes : ByteArray) (maxL : Nat) (ret : Option FieldType) (n : Nat) : Prop := Cond.static y ∈ TT ∧ Cond.code y bytes maxL ret ∈ TT ∧ Cond.initialized y.cls ∈ TT ∧ (y.cls ≠ "java/lang/invoke/MethodHandle" ∧ y.cls ≠ "java/lang/invoke/VarHandle") ∧ (parseMethodDescriptor y.desc).map (fun d => d.parameters.length) = some n ∧ maxL ≤ 26
theorem TT_warm {args : Array Value} {s : State} (hts : ∀ w ∈ TT, w.before args s = true) {y : MethodName} {bytes : ByteArray} {maxL : Nat} {ret : Option FieldType} (hc : Cond.code y bytes maxL ret ∈ TT) : ∀ w ∈ (Cond.code y bytes maxL ret :: TT), ∀ (a' : Array Value) (U : State), s.WarmedH U.vm → w.before a' U = true := by
  intro w hw a' U hW
  have hw' : w ∈ TT := by
    rcases List.mem_cons.mp hw with h | h
    · rw [h]; exact hc
    · exact h
  exact word_at hW (good_of_word (List.mem_filter.mp hw').2) (hts w hw')
theorem par_len {y : MethodName} {n : Nat} (h : (parseMethodDescriptor y.desc).map (fun d => d.parameters.length) = some n) : ∀ sig, parseMethodDescriptor y.desc = some sig → n = sig.parameters.length := by
  intro sig hs
  rw [hs] at h
  simpa using h.symm
set_option maxHeartbeats 4000000 in
theorem wp_callV {Γ : Ctx} {cc : ByteArray} {nL d pc : Nat} {own : String} {L : List (Nat × Value)} {st rest : List Value} {I : MI} {J : MJ} {y : MethodName} {bytes : ByteArray} {maxL n d' index o ci n' N : Nat} {T : u_T} {ret : Option FieldType} {As : List Value} {Post : PT} (X : Cx Γ cc nL own d) (hd : decode cc pc = .ok (.invokevirtual index, 3)) (hlink : Cond.methodLink own index y ∈ TT) (hw : MV y bytes maxL ret n)
    (hs : shp[o]? = some (ci, n')) (hci : ci < 20) (hcl : vwCl[ci]? = some (y.cls, T, N)) (hM : Cm (cxL Γ) (cxG Γ) y bytes maxL ret d' (.ref (ad Γ o) :: As) I J Post) (hn : As.length = n) (hst : st = As.reverse ++ .ref (ad Γ o) :: rest) (hrest : (rest.map fun v => v.category).sum ≤ 8) (hdd : d' + 1 ≤ d)
    (kk : ∀ (v : Option Value) (I' : MI) (J' : MJ), Post v I' J' → Wp Γ nL (pc + 3) L (v.toList ++ rest) I' J') : Wp Γ nL pc L st I J := by
  obtain ⟨p, l, e, R, s, m, args, below, meth, c, cells, slots, Q, A, g⟩ := Γ
  obtain ⟨hx, hb, hml, hown, hts, hK, hi, hA, hfr, hlo, hce, hsl⟩ := X
  obtain ⟨w1, w2, w3, w4, w5, w6, w7⟩ := hw
  intro H locs ls hP hS hl
  have he : (wd g I J)[o]? = some (g.1 o, .inr (ci, flds g.1 ci (I o) (J o) o)) := by rw [wd_at g _ _ (shp_lt hs), cel_o hs hci]
  refine va_callG (va_runV (mc := 0) (ms := 0) (n := n) (As := As) (rest := rest) (C := y.cls) ⟨hx, hb, hml, hown, hts⟩ hM ⟨⟨rfl, rfl, Nat.le_trans hdd hfr, ?_, TT_warm hts w3, List.mem_cons_self, hts _ w3, hts _ w4, w5, par_len w6, hts _ hlink⟩, hts _ w1, hts _ w2⟩ ⟨Pc_blind, va_recv hK.1 hP hcl he, fun U hU hW => ⟨rfl, by rw [hU]; exact hP, KG.moved hW.alike hK⟩⟩ rfl hn hl.1 hst (lv_room hrest) hd ⟨hce, hsl⟩) hS (fun q hq => ?_) (fun v I' J' H1 locs1 hp hP1 hS1 => kk v I' J' hp H1 locs1 ls hP1 hS1 hl)
  · show 8 + (maxL + 11) + 45 * d' ≤ R.locals
    omega
  · obtain ⟨i, h1, h2⟩ := hq
    rw [h2]
    exact hA i h1
set_option maxHeartbeats 4000000 in
theorem wp_callS {Γ : Ctx} {cc : ByteArray} {nL d pc : Nat} {own : String} {L : List (Nat × Value)} {st rest : List Value} {I : MI} {J : MJ} {y : MethodName} {bytes : ByteArray} {maxL n d' index : Nat} {ret : Option FieldType} {As : List Value} {Post : PT} (X : Cx Γ cc nL own d) (hd : decode cc pc = .ok (.invokestatic index, 3)) (hlink : Cond.methodLink own index y ∈ TT) (hw : MS y bytes maxL ret n)
    (hM : Cm (cxL Γ) (cxG Γ) y bytes maxL ret d' As I J Post) (hn : As.length = n) (hst : st = As.reverse ++ rest) (hrest : (rest.map fun v => v.category).sum ≤ 8) (hdd : d' + 1 ≤ d)
    (kk : ∀ (v : Option Value) (I' : MI) (J' : MJ), Post v I' J' → Wp Γ nL (pc + 3) L (v.toList ++ rest) I' J') : Wp Γ nL pc L st I J := by
  obtain ⟨p, l, e, R, s, m, args, below, meth, c, cells, slots, Q, A, g⟩ := Γ
  obtain ⟨hx, hb, hml, hown, hts, hK, hi, hA, hfr, hlo, hce, hsl⟩ := X
  obtain ⟨w1, w3, w4, w5, w6, w7⟩ := hw
  intro H locs ls hP hS hl
  refine va_callG (va_runS (mc := 0) (ms := 0) (n := n) (As := As) (rest := rest) ⟨hx, hb, hml, hown, hts⟩ hM ⟨⟨rfl, rfl, Nat.le_trans hdd hfr, ?_, TT_warm hts w3, List.mem_cons_self, hts _ w3, hts _ w4, w5, par_len w6, hts _ hlink⟩, hts _ w1⟩ ⟨Pc_blind, fun U hU hW => ⟨rfl, by rw [hU]; exact hP, KG.moved hW.alike hK⟩⟩ rfl hn hl.1 hst (lv_room hrest) hd ⟨hce, hsl⟩) hS (fun q hq => ?_) (fun v I' J' H1 locs1 hp hP1 hS1 => kk v I' J' hp H1 locs1 ls hP1 hS1 hl)
  · show 8 + (maxL + 11) + 45 * d' ≤ R.locals
    omega
  · obtain ⟨i, h1, h2⟩ := hq
    rw [h2]
    exact hA i h1
set_option maxHeartbeats 4000000 in
theorem wp_callU {Γ : Ctx} {cc : ByteArray} {nL d pc : Nat} {own : String} {L : List (Nat × Value)} {st rest : List Value} {I : MI} {J : MJ} {x y : MethodName} {bytes : ByteArray} {maxL n d' index o ci n' N : Nat} {T : u_T} {ret : Option FieldType} {As : List Value} {Post : PT} (X : Cx Γ cc nL own d) (hd : decode cc pc = .ok (.invokevirtual index, 3)) (hlink : Cond.methodLink own index x ∈ TT)
    (hx8 : x.cls = RX8) (hdec : ∀ (g : GE) (U : State), KG g U → va_Nw (.declares ⟨RX8, x.name, x.desc⟩) U) (hsame : Cond.sameMethod x.cls RX8 x.name x.desc ∈ TT) (hsel : Cond.selects y.cls x y ∈ TT) (hin : Cond.instanceMethod y ∈ TT) (hini : Cond.initialized y.cls ∈ TT) (hcode : Cond.code y bytes maxL ret ∈ TT) (hpar : (parseMethodDescriptor x.desc).map (fun d => d.parameters.length) = some n) (hmax : maxL ≤ 26)
    (hs : shp[o]? = some (ci, n')) (hci : ci < 20) (hcl : vwCl[ci]? = some (y.cls, T, N)) (hM : Cm (cxL Γ) (cxG Γ) y bytes maxL ret d' (.ref (ad Γ o) :: As) I J Post) (hn : As.length = n) (hst : st = As.reverse ++ .ref (ad Γ o) :: rest) (hrest : (rest.map fun v => v.category).sum ≤ 8) (hdd : d' + 1 ≤ d)
    (kk : ∀ (v : Option Value) (I' : MI) (J' : MJ), Post v I' J' → Wp Γ nL (pc + 3) L (v.toList ++ rest) I' J') : Wp Γ nL pc L st I J := by
  obtain ⟨p, l, e, R, s, m, args, below, meth, c, cells, slots, Q, A, g⟩ := Γ
  obtain ⟨hx, hb, hml, hown, hts, hK, hi, hA, hfr, hlo, hce, hsl⟩ := X
  intro H locs ls hP hS hl
  have he : (wd g I J)[o]? = some (g.1 o, .inr (ci, flds g.1 ci (I o) (J o) o)) := by rw [wd_at g _ _ (shp_lt hs), cel_o hs hci]
  refine va_callG (va_runU (mc := 0) (ms := 0) (n := n) (As := As) (rest := rest) (C := y.cls) (owner := RX8) (x := x) ⟨hx, hb, hml, hown, hts⟩ hM ⟨⟨rfl, rfl, Nat.le_trans hdd hfr, ?_, TT_warm hts hcode, List.mem_cons_self⟩, hts _ hcode, hts _ hini, by decide +kernel, fun sig h => ?_, hts _ hlink, hts _ hsame, va_Decl.abs (hdec g s hK), hts _ hsel, hts _ hin⟩ ⟨Pc_blind, va_recv hK.1 hP hcl he, fun U hU hW => ⟨rfl, by rw [hU]; exact hP, KG.moved hW.alike hK⟩⟩ rfl hn hl.1 hst (lv_room hrest) hd ⟨hce, hsl⟩) hS (fun q hq => ?_) (fun v I' J' H1 locs1 hp hP1 hS1 => kk v I' J' hp H1 locs1 ls hP1 hS1 hl)
  · show 8 + (maxL + 11) + 45 * d' ≤ R.locals
    omega
  · rw [h] at hpar
    simpa using hpar.symm
  · obtain ⟨i, h1, h2⟩ := hq
    rw [h2]
    exact hA i h1
section RET
variable {Γ : Ctx} {cc : ByteArray} {nL d pc : Nat} {own : String} {L : List (Nat × Value)} {I : MI} {J : MJ} {Post : PT}
theorem Q_of {p : Program} {g : GE} {s : State} {args : Array Value} {H : Heap} {locs : List Loc} {v : Option Value} (hK : KG g s) (hP : va_P g.2.1 vwCl (wd g I J) H) (hS : va_S (Ag g) s.heap H locs) (h : Post v I J) : ∀ t : State, t.heap = H → s.WarmedH t.vm → QcOf g Post args s (.returned v) t :=
  fun t ht hW => ⟨⟨v, I, J, rfl, h, by rw [ht]; exact hP, KG.moved hW.alike hK⟩, hS.F ht⟩
theorem wp_iret {v : Int32} (X : Cx Γ cc nL own d) (Y : Rt Γ Post (some .int)) (hd : decode cc pc = .ok (.ireturn, 1)) (h : Post (some (.int v)) I J) : Wp Γ nL pc L [.int v] I J := by
  obtain ⟨p, l, e, R, s, m, args, below, meth, c, cells, slots, Q, A, g⟩ := Γ
  obtain ⟨rfl, hr, hlk, rfl⟩ := Y
  exact fun H locs ls hP hS hl => W.iret X.1 X.2.1 hr (Q_of (p := p) X.2.2.2.2.2.1 hP hS h) hS.2.2 hd hlk
theorem wp_zret {v : Int32} (X : Cx Γ cc nL own d) (Y : Rt Γ Post (some .boolean)) (hd : decode cc pc = .ok (.ireturn, 1)) (hv : v = 0 ∨ v = 1) (h : Post (some (.int v)) I J) : Wp Γ nL pc L [.int v] I J := by
  obtain ⟨p, l, e, R, s, m, args, below, meth, c, cells, slots, Q, A, g⟩ := Γ
  obtain ⟨rfl, hr, hlk, rfl⟩ := Y
  exact fun H locs ls hP hS hl => W.zret X.1 X.2.1 hr (by rcases hv with rfl | rfl <;> decide) (Q_of (p := p) X.2.2.2.2.2.1 hP hS h) hS.2.2 hd hlk
theorem wp_lret {v : Int64} (X : Cx Γ cc nL own d) (Y : Rt Γ Post (some .long)) (hd : decode cc pc = .ok (.lreturn, 1)) (h : Post (some (.long v)) I J) : Wp Γ nL pc L [.long v] I J := by
  obtain ⟨p, l, e, R, s, m, args, below, meth, c, cells, slots, Q, A, g⟩ := Γ
  obtain ⟨rfl, hr, hlk, rfl⟩ := Y
  exact fun H locs ls hP hS hl => W.lret X.1 X.2.1 hr (Q_of (p := p) X.2.2.2.2.2.1 hP hS h) hS.2.2 hd hlk
theorem wp_vret (X : Cx Γ cc nL own d) (Y : Rt Γ Post none) (hd : decode cc pc = .ok (.return_, 1)) (h : Post none I J) : Wp Γ nL pc L [] I J := by
  obtain ⟨p, l, e, R, s, m, args, below, meth, c, cells, slots, Q, A, g⟩ := Γ
  obtain ⟨rfl, hr, hlk, rfl⟩ := Y
  exact fun H locs ls hP hS hl => W.vret X.1 X.2.1 hr (Q_of (p := p) X.2.2.2.2.2.1 hP hS h) hS.2.2 hd hlk
theorem wp_aret {q : Option Nat} {C : String} (X : Cx Γ cc nL own d) (Y : Rt Γ Post (some (.object C))) (hd : decode cc pc = .ok (.areturn, 1)) (h : Post (some (rfN (ad Γ) q)) I J) : Wp Γ nL pc L [rfN (ad Γ) q] I J := by
  obtain ⟨p, l, e, R, s, m, args, below, meth, c, cells, slots, Q, A, g⟩ := Γ
  obtain ⟨rfl, hr, hlk, rfl⟩ := Y
  exact fun H locs ls hP hS hl => W.aret X.1 X.2.1 hr (Or.inl ⟨C, rfl⟩) (by cases q with | none => exact Or.inl rfl | some a => exact Or.inr ⟨_, rfl⟩) (Q_of (p := p) X.2.2.2.2.2.1 hP hS h) hS.2.2 hd hlk
end RET
section NAT
variable {Γ : Ctx} {cc : ByteArray} {nL d pc : Nat} {own : String} {L : List (Nat × Value)} {st : List Value} {I : MI} {J : MJ}
set_option maxHeartbeats 4000000 in
theorem wp_copy {index o1 o2 n1 n2 : Nat} {sp dp n : Int32} (X : Cx Γ cc nL own d) (hd : decode cc pc = .ok (.invokestatic index, 3)) (hlink : Cond.methodLink own index arraycopyName ∈ TT) (hw : Cond.native arraycopyName ∈ TT ∧ Cond.static arraycopyName ∈ TT ∧ Cond.initialized "java/lang/System" ∈ TT) (hd1 : 1 ≤ d) (hs1 : shp[o1]? = some (20, n1)) (hs2 : shp[o2]? = some (20, n2))
    (hc : ¬ sp < 0 ∧ ¬ dp < 0 ∧ ¬ n < 0 ∧ sp.toNatClampNeg + n.toNatClampNeg ≤ n1 ∧ dp.toNatClampNeg + n.toNatClampNeg ≤ n2)
    (k : Wp Γ nL (pc + 3) L [] (sI I o2 (va_cpy (I o1) (I o2) sp.toNatClampNeg dp.toNatClampNeg n.toNatClampNeg)) J) : Wp Γ nL pc L [.int n, .int dp, .ref (ad Γ o2), .int sp, .ref (ad Γ o1)] I J := by
  obtain ⟨p, l, e, R, s, m, args, below, meth, c, cells, slots, Q, A, g⟩ := Γ
  obtain ⟨hx, hb, hml, hown, hts, hK, hi, hA, hfr, hlo, hce, hsl⟩ := X
  obtain ⟨c1, c2, c3, c4, c5⟩ := hc
  refine fun H locs ls hP hS hl => va_copyi (ty := .int) (rest := []) hx hb (by rw [hml, hl.1]) hown (hts _ hlink) (hts _ hw.1) (hts _ hw.2.1) (hts _ hw.2.2) hK.1 hP (wd_D hi hA) hS o1 o2 0 0 (by rw [wd_at g _ _ (shp_lt hs1), cel_i hs1]) (by rw [wd_at g _ _ (shp_lt hs2), cel_i hs2]) rfl rfl rfl c1 c2 c3 c4 c5 (fun i _ => rfl) (by omega) ?_ hd (fun H1 locs1 hP1 _ hS1 => ?_)
  · have : nativeFrameWords "java/lang/System" "arraycopy" 5 + 11 ≤ 45 := by decide +kernel
    simp only [List.map_nil, List.sum_nil]
    omega
  · rw [← cel_i (f := va_cpy (I o1) (I o2) sp.toNatClampNeg dp.toNatClampNeg n.toNatClampNeg) (h := J o2) hs2, wd_setI] at hP1
    exact k H1 locs1 ls hP1 hS1 hl
theorem wp_max {index : Nat} {x y : Int32} (X : Cx Γ cc nL own d) (hd : decode cc pc = .ok (.invokestatic index, 3)) (hlink : Cond.methodLink own index Lib.Math.max.name ∈ TT) (hw : Cond.static Lib.Math.max.name ∈ TT ∧ Cond.initialized "java/lang/Math" ∈ TT ∧ Cond.code Lib.Math.max.name Lib.Math.max.code 2 (some .int) ∈ TT) (hd1 : 1 ≤ d) (hr : (st.map fun v => v.category).sum ≤ 8)
    (k : Wp Γ nL (pc + 3) L (.int (if x < y then y else x) :: st) I J) : Wp Γ nL pc L (.int y :: .int x :: st) I J := by
  obtain ⟨p, l, e, R, s, m, args, below, meth, c, cells, slots, Q, A, g⟩ := Γ
  obtain ⟨hx, hb, hml, hown, hts, hK, hi, hA, hfr, hlo, hce, hsl⟩ := X
  exact fun H locs ls hP hS hl => va_mmax hx hb (by rw [hml, hl.1]) hown (hts _ hlink) (hts _ hw.1) (hts _ hw.2.1) (hts _ hw.2.2) (by omega) (by omega) hce hsl hd (k H locs ls hP hS hl)
theorem wp_min {index : Nat} {x y : Int32} (X : Cx Γ cc nL own d) (hd : decode cc pc = .ok (.invokestatic index, 3)) (hlink : Cond.methodLink own index Lib.Math.min.name ∈ TT) (hw : Cond.static Lib.Math.min.name ∈ TT ∧ Cond.initialized "java/lang/Math" ∈ TT ∧ Cond.code Lib.Math.min.name Lib.Math.min.code 2 (some .int) ∈ TT) (hd1 : 1 ≤ d) (hr : (st.map fun v => v.category).sum ≤ 8)
    (k : Wp Γ nL (pc + 3) L (.int (if y < x then y else x) :: st) I J) : Wp Γ nL pc L (.int y :: .int x :: st) I J := by
  obtain ⟨p, l, e, R, s, m, args, below, meth, c, cells, slots, Q, A, g⟩ := Γ
  obtain ⟨hx, hb, hml, hown, hts, hK, hi, hA, hfr, hlo, hce, hsl⟩ := X
  exact fun H locs ls hP hS hl => va_mmin hx hb (by rw [hml, hl.1]) hown (hts _ hlink) (hts _ hw.1) (hts _ hw.2.1) (hts _ hw.2.2) (by omega) (by omega) hce hsl hd (k H locs ls hP hS hl)
end NAT
