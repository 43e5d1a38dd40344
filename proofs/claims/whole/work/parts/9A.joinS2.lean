/-! join, the class -/
def ab1 (A : AM) : Bool := A.2.2.any (fun q => decide (1 < q.2))
theorem VL.full {A : AM} (h : VL A) : FullQ (aN A) A.2.1 A.2.2 := by
  obtain ⟨h1, h2, h3⟩ := h
  intro q hq
  obtain ⟨v1, v2, v3⟩ := h1.2.2.2.2.2 q hq
  obtain ⟨r, r1, r2⟩ := h3 q hq
  refine ⟨?_, r, r1, r2, fun x hx => ?_⟩
  · by_cases h0 : A.1 = 0
    · rw [if_pos h0] at v1; omega
    · rw [if_neg h0] at v1; exact v1
  · obtain ⟨w1, w2⟩ := v3 r r1
    obtain ⟨x1, x2, x3⟩ := w2 x hx
    exact ⟨x1, x3 (by omega)⟩
theorem c_top {o : Nat} {A : AM} {I : MI} {J : MJ} {Q : Int32 → MI → MJ → Prop} (hA : RepC I o A) (h : VL A) (q : ∀ m, m ≤ 7 → (1 < m ↔ ab1 A = true) → Q (nI m) I J) : f_Machine_topAnswer o I J Q := by
  refine s_top hA.2.1 h.1.2.2.2.2.1 hA.2.2.2 h.full (fun m hm e => q m hm ?_)
  unfold ab1
  rw [e]
  simp
def kJ (A B : AM) : Nat := if A.2.1 < B.2.1 then B.2.1 else A.2.1
def mJ (how : Nat) : Nat := if how < 3 then 225 else 200
def nJ (how : Nat) (A B : AM) (x a : Nat) : Option Nat := some (nxJ how A B x a)
def LJ (how : Nat) (A B : AM) : List Nat := bfB (nJ how A B) (kJ A B) (k0J how A) (mJ how)
def toJ (how : Nat) (A B : AM) : Nat → Nat → Option Nat := toL (nJ how A B) (LJ how A B)
noncomputable section
def aJ (how : Nat) (A B : AM) : Nat → Nat := anL (anJ how A B) (LJ how A B)
def eqJ (how : Nat) (A B : AM) : Nat → Nat → Prop := eqN (toJ how A B) (aJ how A B) (kJ A B)
def mkJ (how : Nat) (A B : AM) : AM := gMk (LJ how A B).length (toJ how A B) (aJ how A B) (eqJ how A B) (kJ A B)
def joinA (how : Nat) (A B : AM) : Int32 ⊕ AM := by classical exact if mJ how < (LJ how A B).length then .inl 5 else if 14 < cr (eqJ how A B) (LJ how A B).length then .inl 5 else .inr (mkJ how A B)
def joinR (how : Nat) (A B : AM) : Int32 ⊕ AM := by classical exact if grt A then .inl 5 else if grt B then .inl 5 else if ab1 (leastA A) = true then .inl 4 else if ab1 (leastA B) = true then .inl 4 else joinA how (leastA A) (leastA B)
def opJoin (h x y z : Int32) (σ : SG) : Int32 × SG := match idx 6 h with
  | none => ref 2 σ
  | some how => match maC σ x with
    | none => ref (fMa σ x) σ
    | some A => match (if how = 0 ∨ how = 1 ∨ how = 3 then maC σ y else some A) with
      | none => ref (fMa σ y) σ
      | some B => match plc z with
        | none => ref 2 σ
        | some t => match joinR how A B with
          | .inl v => ref v σ
          | .inr C => don (nI (aN C)) (setF (setD σ t (some (.inl C))) t (σ.2.1 t))
end
theorem LJ_1 (how : Nat) (A B : AM) : 1 ≤ (LJ how A B).length := by
  have := (List.getElem?_eq_some_iff.mp (bfB_k0 (nJ how A B) (kJ A B) (k0J how A) (mJ how))).1
  show 0 < (bfB (nJ how A B) (kJ A B) (k0J how A) (mJ how)).length
  exact this
theorem LJ_P {how : Nat} {A B : AM} (hv : VA A) (hw : VA B) (h2 : how = 2 → B = A) : ∀ x ∈ LJ how A B, PJ how A B x := bfB_inv (PJ_0 hv hw) (fun x a k hx _ hk => by cases hk; exact PJ_nx hv hw h2 hx) (mJ how)
theorem kJ_4 {A B : AM} (hv : VA A) (hw : VA B) : 1 ≤ kJ A B ∧ kJ A B ≤ 4 := by
  unfold kJ
  have := hv.2.1
  have := hv.2.2.1
  have := hw.2.1
  have := hw.2.2.1
  split <;> omega
theorem kJ_i {A B : AM} (hv : VA A) (hw : VA B) : (if nI A.2.1 < nI B.2.1 then nI B.2.1 else nI A.2.1) = nI (kJ A B) := by
  have := hv.2.2.1
  have := hw.2.2.1
  unfold kJ
  by_cases h : A.2.1 < B.2.1
  · rw [if_pos (by rw [ltNN (by omega) (by omega)]; exact h), if_pos h]
  · rw [if_neg (by rw [ltNN (by omega) (by omega)]; exact h), if_neg h]
theorem mJ_b (how : Nat) : 200 ≤ mJ how ∧ mJ how ≤ 225 := by
  unfold mJ
  split <;> omega
theorem mkJ_VL {how : Nat} {A B : AM} (hv : VA A) (hw : VA B) (h14 : cr (eqJ how A B) (LJ how A B).length ≤ 14) : VL (mkJ how A B) := by
  have hk := kJ_4 hv hw
  refine gMk_VL (K := kJ A B) (eqN_e _ _ _) (fun i hi => ?_) (Nat.le_refl _) hk.2 hk.1 (fun i a j _ _ h => toL_lt h) (LJ_1 how A B) h14
  show anL (anJ how A B) (LJ how A B) i ≤ 7
  rw [anL_of (List.getElem?_eq_getElem hi)]
  have := anJ_1 how A B (LJ how A B)[i]
  omega
/-- what joining leaves alone -/
def JnF (I I' : MI) : Prop := ∀ i, (i < 2 ∨ (22 < i ∧ i < 60) ∨ 64 < i) → I' i = I i
theorem c_joinA {how : Nat} {A B : AM} {I : MI} {J : MJ} {Q : Int32 → MI → MJ → Prop} (h5 : how ≤ 5) (h2 : how = 2 → B = A) (hA : RepC I 13 A) (hB : RepC I 18 B) (hv : VA A) (hw : VA B) (hH : HaS I) (q0 : ∀ v I', joinA how A B = .inl v → JnF I I' → HaS I' → Q v I' J) (q1 : ∀ C I', joinA how A B = .inr C → VA C → JnF I I' → HaS I' → RepC I' 60 C → Q 0 I' J) : f_Joining_begin (nI how) I J (fun I73 J73 => (if nI how < 3 then f_School_joinFault_b90 225 Q I73 J73 else f_School_joinFault_b90 200 Q I73 J73)) := by
  refine j_begin hA hB hv hw (fun I1 e1 c1 => ?_)
  have hm : (if nI how < 3 then f_School_joinFault_b90 225 Q I1 J else f_School_joinFault_b90 200 Q I1 J) ↔ f_School_joinFault_b90 (nI (mJ how)) Q I1 J := by
    unfold mJ
    by_cases h : how < 3
    · rw [if_pos (by rw [l3, ltNN (by omega) (by decide)]; exact h), if_pos h]; exact Iff.rfl
    · rw [if_neg (by rw [l3, ltNN (by omega) (by decide)]; exact h), if_neg h]; exact Iff.rfl
  rw [hm]
  have H1 : HaS I1 := hH.kp ⟨by rw [e1 2 (by decide)], e1 4 (by decide), e1 5 (by decide)⟩
  unfold f_School_joinFault_b90 f_Joining_signs
  rw [c1.1.2.2.1, c1.2.1.2.2.1, kJ_i hv hw]
  have hk := kJ_4 hv hw
  have hmb := mJ_b how
  have hjc : ∀ I', Chk I1 I' → JnC I' how A B := fun I' h => by
    have f : ∀ i, 12 ≤ i → I' i = I1 i := fun i hi => h.1 i (by omega) (by omega) (by omega) (by omega) (by omega) (by omega)
    exact ⟨c1.1.kp (fun i a b => f i (by omega)), c1.2.1.kp (fun i a b => f i (by omega)), by rw [f 12 (by decide)]; exact c1.2.2.1, by rw [f 12 (by decide)]; exact c1.2.2.2.1, by rw [f 12 (by decide)]; exact c1.2.2.2.2⟩
  refine ex_J (nx := nJ how A B) (an := anJ how A B) (k0 := k0J how A) (P := PJ how A B) H1 hk.2 (by omega) (by omega) (PJ_0 hv hw) (fun x a k hx _ hk => by cases hk; exact PJ_nx hv hw h2 hx) (fun x hx => PJ_31 hx) (fun I' R hc h => j_first (hjc I' hc) h5 hv h) (fun I' R x a hc hx ha h => j_next (hjc I' hc) h5 hv hw hx (by omega) h) (fun I' R x hc hx h => j_ans (hjc I' hc) h5 hv hw hx h) (fun hl I' hc hh => ?_) (fun hl I' hc hC hT => ?_)
  · rw [if_pos rfl]
    refine q0 5 I' ?_ (fun i hi => by rw [hc.1 i (by omega) (by omega) (by omega) (by omega) (by omega) (by omega), e1 i (by omega)]) hh
    unfold joinA
    rw [if_pos (show mJ how < (LJ how A B).length from hl)]
  · rw [if_neg (by decide)]
    have hl' : ¬ mJ how < (LJ how A B).length := by have : (LJ how A B).length ≤ mJ how := hl; omega
    have gr : GrS I' (LJ how A B).length (kJ A B) (toJ how A B) (aJ how A B) := ch_gr hC hT hk.2 (LJ_1 how A B) (fun x _ => by have := anJ_1 how A B x; omega)
    refine g_nodes gr (fun h15 I2 e2 f2 => ?_) (fun h14 I2 e2 go2 fo2 f2 => ?_)
    · rw [if_neg (by decide)]
      refine q0 5 I2 ?_ (fun i hi => by rw [e2.1 i (by omega) (by omega) (by omega) (by omega), hc.1 i (by omega) (by omega) (by omega) (by omega) (by omega) (by omega), e1 i (by omega)]) (hC.has.kp ⟨e2.2 0 (by decide), e2.1 4 (by decide) (by decide) (by decide) (by decide), e2.1 5 (by decide) (by decide) (by decide) (by decide)⟩)
      unfold joinA
      rw [if_neg hl', if_pos (show 14 < cr (eqJ how A B) (LJ how A B).length from h15)]
    · rw [if_pos (by rw [l14, leNN (by omega) (by decide)]; exact h14)]
      have f2' : ∀ i, 12 ≤ i → I2 i = I1 i := fun i hi => by rw [e2.1 i (by omega) (by omega) (by omega) (by omega), hc.1 i (by omega) (by omega) (by omega) (by omega) (by omega) (by omega)]
      rw [f2' 13 (by decide), f2' 18 (by decide), c1.1.2.2.1, c1.2.1.2.2.1, kJ_i hv hw]
      refine g_write (by decide) (e2.gr gr) (eqN_e _ _ _) go2 fo2 f2 h14 (Nat.le_refl _) (fun I3 e3 r3 => ?_)
      have hC2 : HaS I2 := hC.has.kp ⟨e2.2 0 (by decide), e2.1 4 (by decide) (by decide) (by decide) (by decide), e2.1 5 (by decide) (by decide) (by decide) (by decide)⟩
      refine q1 (mkJ how A B) I3 ?_ (mkJ_VL hv hw h14).1 (fun i hi => by rw [e3 i (by omega), e2.1 i (by omega) (by omega) (by omega) (by omega), hc.1 i (by omega) (by omega) (by omega) (by omega) (by omega) (by omega), e1 i (by omega)]) (hC2.kp ⟨by rw [e3 2 (by omega)], e3 4 (by omega), e3 5 (by omega)⟩) r3
      unfold joinA
      rw [if_neg hl', if_neg (show ¬ 14 < cr (eqJ how A B) (LJ how A B).length by have : cr (eqJ how A B) (LJ how A B).length ≤ 14 := h14; omega)]
theorem c_joinR {how o1 o2 : Nat} {A B : AM} {I : MI} {J : MJ} {Q : Int32 → MI → MJ → Prop} (h5 : how ≤ 5) (h2 : how = 2 → B = A) (ho1 : 65 ≤ o1) (ho2 : 65 ≤ o2) (hA : RepC I o1 A) (hB : RepC I o2 B) (hv : VA A) (hw : VA B) (hH : HaS I) (q0 : ∀ v I', joinR how A B = .inl v → JnF I I' → HaS I' → Q v I' J) (q1 : ∀ C I', joinR how A B = .inr C → VA C → JnF I I' → HaS I' → RepC I' 60 C → Q 0 I' J) : f_School_joinFault (nI how) o1 o2 I J Q := by
  unfold f_School_joinFault
  refine c_least (by omega) (by decide) hA hv hH (fun hg I1 e1 H1 => ?_) (fun hg I1 e1 H1 r1 => ?_)
  · rw [if_pos rfl]
    refine q0 5 I1 ?_ (fun i hi => e1 i (by omega)) H1
    unfold joinR
    rw [if_pos hg]
  · rw [if_neg (by decide)]
    have vl1 := leastA_VL hv hg
    refine c_least (by omega) (by decide) (hB.kp (fun i a b => e1 i (by omega) (by omega))) hw H1 (fun hg2 I2 e2 H2 => ?_) (fun hg2 I2 e2 H2 r2 => ?_)
    · rw [if_pos rfl]
      refine q0 5 I2 ?_ (fun i hi => by rw [e2 i (by omega), e1 i (by omega) (by omega)]) H2
      unfold joinR
      rw [if_neg hg, if_pos hg2]
    · rw [if_neg (by decide)]
      have vl2 := leastA_VL hw hg2
      have r1' : RepC I2 13 (leastA A) := r1.kp (fun i a b => e2 i (by omega) (by omega))
      have f2 : JnF I I2 := fun i hi => by rw [e2 i (by omega) (by omega), e1 i (by omega) (by omega)]
      refine c_top r1' vl1 (fun m hm em => ?_)
      by_cases c1 : ab1 (leastA A) = true
      · rw [if_pos (by rw [l1, ltNN (by decide) (by omega)]; exact em.mpr c1)]
        refine q0 4 I2 ?_ f2 H2
        unfold joinR
        rw [if_neg hg, if_neg hg2, if_pos c1]
      · rw [if_neg (by rw [l1, ltNN (by decide) (by omega)]; exact fun h => c1 (em.mp h))]
        refine c_top r2 vl2 (fun m' hm' em' => ?_)
        by_cases c2 : ab1 (leastA B) = true
        · rw [if_neg (by rw [l1, leNN (by omega) (by decide)]; have := em'.mpr c2; omega)]
          refine q0 4 I2 ?_ f2 H2
          unfold joinR
          rw [if_neg hg, if_neg hg2, if_neg c1, if_pos c2]
        · rw [if_pos (by rw [l1, leNN (by omega) (by decide)]; have : ¬ 1 < m' := fun h => c2 (em'.mp h); omega)]
          have eR : joinR how A B = joinA how (leastA A) (leastA B) := by
            unfold joinR
            rw [if_neg hg, if_neg hg2, if_neg c1, if_neg c2]
          refine c_joinA h5 (fun e => by rw [h2 e]) r1' r2 vl1.1 vl2.1 H2 (fun v I' e f H => q0 v I' (by rw [eR]; exact e) (fun i hi => by rw [f i hi, f2 i hi]) H) (fun C I' e hC f H r => q1 C I' (by rw [eR]; exact e) hC (fun i hi => by rw [f i hi, f2 i hi]) H r)
theorem joinR_ne {how : Nat} {A B : AM} {v : Int32} (h : joinR how A B = .inl v) : ¬ v = 0 := by
  unfold joinR joinA at h
  split at h
  · cases h; decide
  · split at h
    · cases h; decide
    · split at h
      · cases h; decide
      · split at h
        · cases h; decide
        · split at h
          · cases h; decide
          · split at h
            · cases h; decide
            · cases h
theorem S_join {h x y z : Int32} {I : MI} {J : MJ} {σ : SG} {Q : Int32 → MI → MJ → Prop} (ha : AbsS I J σ) (q : KS I J (opJoin h x y z σ) Q) : f_School_join h x y z I J Q := by
  -- with how known
  have core : ∀ (how two : Nat), how ≤ 5 → two = (if how = 0 ∨ how = 1 ∨ how = 3 then 1 else 0) → KS I J (opJoin (nI how) x y z σ) Q → f_School_join_b19 (nI how) x y z (nI two) Q I J := by
    intro how two h5 htwo q
    unfold f_School_join_b19
    rw [if_neg (nI0_lt (by omega)), if_pos (by rw [l5, leNN (by omega) (by decide)]; exact h5), S_machF ha]
    unfold opJoin at q
    have e6 : idx 6 (nI how) = some how := by
      rcases idx_cases (N := 6) (by decide) (nI how) with ⟨p, hp, e, e'⟩ | ⟨hb, _⟩
      · rw [eqNN (by omega) (by omega)] at e
        rw [e', e]
      · exfalso
        rcases hb with hb | hb
        · exact nI0_lt (by omega) hb
        · rw [leNN (by decide) (by omega)] at hb; omega
    rw [e6] at q
    simp only at q
    have bad : ∀ v, ¬ v = 0 → KS I J (ref v σ) Q → f_School_join_b117 z v Q I J := fun v hv k => by
      unfold f_School_join_b117
      rw [if_neg hv]
      exact k.ref ha
    unfold f_School_join_b39 f_School_join_b58 f_School_join_b70
    rcases maC_cases σ x with ⟨p, A, hp, rfl, ht, e, e0⟩ | ⟨e, e0⟩
    · rw [e] at q
      simp only at q
      have hP := (ha.1 p hp).1
      rw [ht] at hP
      obtain ⟨g1, g2, g3⟩ := hP
      rw [e0, if_pos rfl, if_pos rfl]
      -- the second machine is settled
      have fin : ∀ (B : AM) (r : Nat), r < 16 → σ.1 r = some (.inl B) → (how = 2 → B = A) → KS I J (match plc z with | none => ref 2 σ | some t => match joinR how A B with | .inl v => ref v σ | .inr C => don (nI (aN C)) (setF (setD σ t (some (.inl C))) t (σ.2.1 t))) Q → ∀ t, z = nI t → t < 16 → f_School_join_b112 z (nI how) (1 + 64 + 7 * p + 1) (1 + 64 + 7 * r + 1) Q I J := by
        intro B r hr hs h2 q t hz ht'
        subst hz
        rw [plcN ht'] at q
        simp only at q
        have hP := (ha.1 r hr).1
        rw [hs] at hP
        obtain ⟨k1, k2, k3⟩ := hP
        unfold f_School_join_b112 f_School_join_b117
        refine c_joinR h5 h2 (by omega) (by omega) g2 k2 g3 k3 ha.2.2.2.2 (fun v I' ev f H => ?_) (fun C I' ev hC f H r => ?_)
        · rw [ev] at q
          rw [if_neg (joinR_ne ev)]
          exact KS.ref' q ⟨fun i hi => f i (by omega), fun _ _ => rfl⟩ (ha.scr (fun i hi => f i (by omega)) (fun _ _ => rfl) H)
        · rw [ev] at q
          rw [if_pos rfl]
          exact s_lay (by decide) ht' r hC (ha.scr (fun i hi => f i (by omega)) (fun _ _ => rfl) H) ⟨fun i hi => f i (by omega), fun _ _ => rfl⟩ q
      by_cases h2 : how = 0 ∨ how = 1 ∨ how = 3
      · rw [if_pos h2] at htwo q
        subst htwo
        rw [if_neg (by decide), S_machF ha]
        rcases maC_cases σ y with ⟨r, B, hr, rfl, hs, f, f0⟩ | ⟨f, f0⟩
        · rw [f] at q
          simp only at q
          rw [f0, if_pos rfl]
          rcases plc_cases z with ⟨t, ht', rfl, et⟩ | ⟨hb, et⟩
          · rw [s_placeFaultN ht', if_pos rfl, vpN (by omega), nI_clamp (by omega), if_neg (by decide), vpN (by omega), nI_clamp (by omega)]
            exact ⟨hp, hr, fin B r hr hs (fun e => by omega) q t rfl ht'⟩
          · rw [et] at q
            rw [s_placeFaultB hb, if_neg (by decide)]
            exact bad 2 (by decide) q
        · rw [f] at q
          rw [if_neg f0, if_neg f0]
          exact bad _ f0 q
      · rw [if_neg h2] at htwo q
        subst htwo
        simp only at q
        rw [if_pos (show nI 0 = 0 from rfl)]
        rcases plc_cases z with ⟨t, ht', rfl, et⟩ | ⟨hb, et⟩
        · rw [s_placeFaultN ht', if_pos rfl, vpN (by omega), nI_clamp (by omega), if_pos (show nI 0 = 0 from rfl)]
          exact ⟨hp, hp, fin A p hp ht (fun _ => rfl) q t rfl ht'⟩
        · rw [et] at q
          rw [s_placeFaultB hb, if_neg (by decide)]
          exact bad 2 (by decide) q
    · rw [e] at q
      rw [if_neg e0, if_neg e0, if_neg e0]
      exact bad _ e0 q
  unfold f_School_join f_School_join_b14
  rcases idx_cases (N := 6) (by decide) h with ⟨how, hh, rfl, eh⟩ | ⟨hb, eh⟩
  · by_cases h0 : how = 0
    · subst h0; rw [if_pos (by decide)]; exact core 0 1 (by decide) rfl q
    · rw [if_neg (by rw [l0, eqNN (by omega) (by decide)]; exact h0)]
      by_cases h1 : how = 1
      · subst h1; rw [if_pos (by decide)]; exact core 1 1 (by decide) rfl q
      · rw [if_neg (by rw [l1, eqNN (by omega) (by decide)]; exact h1)]
        by_cases h3 : how = 3
        · subst h3; rw [if_pos (by decide)]; exact core 3 1 (by decide) rfl q
        · rw [if_neg (by rw [l3, eqNN (by omega) (by decide)]; exact h3)]
          exact core how 0 (by omega) (by rw [if_neg (by omega)]) q
  · unfold opJoin at q
    rw [eh] at q
    have bad : ∀ (s : Int32), f_School_join_b19 h x y z s Q I J := fun s => by
      unfold f_School_join_b19 f_School_join_b30 f_School_join_b39 f_School_join_b58 f_School_join_b70 f_School_join_b117
      have fin := KS.ref q ha
      rcases hb with hb | hb
      · rw [if_pos hb, if_neg (by decide), if_neg (by decide), if_neg (by decide), if_neg (by decide)]
        exact fin
      · have h5 : ¬ h ≤ 5 := fun hh => by
          have h1 := Int32.le_iff_toInt_le.mp hh
          have h2 := Int32.le_iff_toInt_le.mp hb
          rw [nI_toInt (by decide)] at h2
          have : (5 : Int32).toInt = 5 := by decide
          omega
        have h0 : ¬ h < 0 := fun hh => by
          have h1 := Int32.lt_iff_toInt_lt.mp hh
          have h2 := Int32.le_iff_toInt_le.mp hb
          rw [nI_toInt (by decide)] at h2
          have : (0 : Int32).toInt = 0 := by decide
          omega
        rw [if_neg h0, if_neg h5, if_neg (by decide), if_neg (by decide), if_neg (by decide), if_neg (by decide)]
        exact fin
    split
    · exact bad 1
    · split
      · exact bad 1
      · split
        · exact bad 1
        · exact bad 0
