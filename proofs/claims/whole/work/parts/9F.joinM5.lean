/-! join, the reference -/
theorem qsG_kd0 {n K : Nat} {to : Nat → Nat → Option Nat} {an : Nat → Nat} {R : Nat → Nat → Prop} (hR : Eqv R) (h1 : ∀ i, i < n → an i ≤ 1) (ht : ∀ i a, i < n → a < K → ∃ j, to i a = some j ∧ j < n) : kdOf K (qsG n to an R K) = 0 := by
  have hf := qsG_full (R := R) (k := K) (K := K) (to := to) (an := an) (n := n) hR (fun i hi => by have := h1 i hi; omega) (Nat.le_refl _) (fun i a j hi ha h => by
    obtain ⟨x, x1, x2⟩ := ht i a hi ha
    rw [x1] at h; cases h; exact x2)
  have hg : ∀ q ∈ qsG n to an R K, ∃ r, r < n ∧ q = (some ((List.range K).map (fun a => ((to r a).map (cls R), 0))), an r) := fun q hq => by
    obtain ⟨s, hs⟩ := List.mem_iff_getElem?.mp hq
    obtain ⟨r, r1, r2⟩ := qsG_get hs
    exact ⟨r, (rpL_get r1).1, r2⟩
  rw [kdOf_eq, if_neg, if_neg]
  · intro h
    obtain ⟨q, hq, hh⟩ := List.any_eq_true.mp h
    obtain ⟨r, r1, rfl⟩ := hg q hq
    have := h1 r r1
    simp at hh
    omega
  · intro h
    obtain ⟨q, hq, hh⟩ := List.any_eq_true.mp h
    obtain ⟨r, r1, rfl⟩ := hg q hq
    rw [lackQ_f hf hq rfl] at hh
    obtain ⟨x, hx, hn⟩ := List.any_eq_true.mp hh
    obtain ⟨a, ha, rfl⟩ := List.mem_map.mp hx
    obtain ⟨j, j1, _⟩ := ht r a r1 (List.mem_range.mp ha)
    rw [j1] at hn
    simp at hn
theorem m_joinAt {t N K : Nat} {to : Nat → Nat → Option Nat} {an : Nat → Nat} {I0 I : MI} {J0 J : MJ} {σ : SG} {Q : Int32 → MI → MJ → Prop} (ht : t < 16) (g : GJ I N K to an) (hK1 : 1 ≤ K) (h14 : cr (eqN to an K) N ≤ 14) (h9 : ∀ i, i < N → I 209 i = nI (cls (eqN to an K) i)) (h : AbsM I J σ) (hf : FrM I0 I J0 J) (q : KM I0 J0 (don (nI (aN (gMk N to an (eqN to an K) K))) (setF (setD σ t (some (.inl (gMk N to an (eqN to an K) K)))) t (σ.2.1 t))) Q) : f_Model_joinedAt (nI t) (nI (cr (eqN to an K) N)) (nI K) I J Q := by
  obtain ⟨g1, g2, g0, g4, g5, g6⟩ := id g
  have hE := eqN_e to an K
  have hc : ∀ i a j, i < N → a < K → to i a = some j → j < N := fun i a j hi ha h => by
    obtain ⟨x, x1, x2, _⟩ := g6 i a hi ha
    rw [x1] at h; cases h; exact x2
  have h7 : ∀ i, i < N → an i ≤ 7 := fun i hi => by have := (g5 i hi).1; omega
  have hcl : ∀ i, i < N → cls (eqN to an K) i < 14 := fun i hi => by have := cls_lt hE hi; omega
  unfold f_Model_joinedAt
  refine clearK (kd := 0) (by omega) (fun I1 f1 f2 f3 f4 f5 f6 f7 => ?_)
  refine lp2 (fun f (i : Nat) (I2 : MI) => f_Model_joinedAt_L11 (nI t) (nI K) _ f (nI i) I2 J) (fun i I2 => i ≤ N ∧ (∀ c, c ≠ 187 → c ≠ 189 → I2 c = I1 c) ∧ (∀ j, (j < 14 * t ∨ 14 * t + 14 ≤ j) → I2 187 j = I1 187 j) ∧ (∀ j, (j < 56 * t ∨ 56 * t + 56 ≤ j) → I2 189 j = I1 189 j) ∧ ∀ j, j < i → I2 187 (14 * t + cls (eqN to an K) j) = nI (an j) ∧ ∀ a, a < K → I2 189 (4 * (14 * t + cls (eqN to an K) j) + a) = enO ((to j a).map (cls (eqN to an K)))) (fun i _ => N - i) ?_ 0 I1 ⟨Nat.zero_le _, fun _ _ _ => rfl, fun _ _ => rfl, fun _ _ => rfl, fun j hj => absurd hj (Nat.not_lt_zero _)⟩
  rintro f i I2 ⟨b1, b2, b3, b4, b5⟩ ih
  have fr : ∀ c, (c < 184 ∨ 190 < c) → I2 c = I c := fun c hc => by rw [b2 c (by omega) (by omega), f1 c hc]
  unfold f_Model_joinedAt_L11
  rw [fr 177 (by decide), g1]
  by_cases ei : i = N
  · rw [if_pos (by rw [ei, leNN (by omega) (by omega)]; exact Nat.le_refl _), vpN (by omega), nI_clamp (by omega)]
    subst ei
    refine ⟨ht, fun I3 e3 => ⟨ht, fun I4 e4 => ?_⟩⟩
    have hI : ∀ c, c ≠ 178 → c ≠ 181 → I4 c = I2 c := fun c u1 u2 => by rw [e4, sI_n _ _ u2, e3, sI_n _ _ u1]
    have d1 : ∀ j, I4 178 j = if j = t then 0 else I 178 j := fun j => by rw [e4, sI_n _ _ (by decide), e3, sI_s, upd_at, fr 178 (by decide)]
    have d2 : ∀ j, I4 181 j = if j = t then 0 else I 181 j := fun j => by rw [e4, sI_s, upd_at, e3, sI_n _ _ (by decide), fr 181 (by decide)]
    have kd := qsG_kd0 (K := K) hE (fun i hi => (g5 i hi).1) (fun i a hi ha => by obtain ⟨x, x1, x2, _⟩ := g6 i a hi ha; exact ⟨x, x1, x2⟩)
    have hvl : VL (gMk i to an (eqN to an K) K) := gMk_VL hE h7 (Nat.le_refl _) g4 hK1 hc g0 h14
    have haN : aN (gMk i to an (eqN to an K) K) = cr (eqN to an K) i := qsG_len
    have fr' : ∀ c, (c < 178 ∨ (178 < c ∧ c < 181) ∨ (181 < c ∧ c < 184) ∨ 190 < c) → I4 c = I c := fun c hc => by rw [hI c (by omega) (by omega), fr c (by omega)]
    rw [haN] at q
    refine q.don (hf.tr ⟨fun c hc => fr' c (by omega), fun _ _ => rfl⟩) (h.at ht (fun j hj h20 => ⟨by rw [d1, if_neg hj], by rw [fr' 179 (by omega)], by rw [d2, if_neg hj], by rw [fr' 182 (by omega)], by rw [fr' 183 (by omega)], ⟨?_, ?_, ?_, fun s hs => ⟨?_, ?_⟩, fun s a hs ha => ⟨?_, ?_⟩⟩, fun _ _ => rfl⟩) (fun j _ => by rw [fr' 177 (by omega)]) (fr' 218 (by omega)) ⟨rfl, rfl, rfl, rfl⟩ ⟨by rw [d1, if_pos rfl]; show (0 : Int32) = nI (kdOf K (qsG i to an (eqN to an K) K)); rw [kd]; rfl, ?_, hvl.1⟩ ((h.1 t ht).2.kp ⟨by rw [fr' 183 (by omega)], by rw [fr' 182 (by omega)]⟩))
    · rw [hI 184 (by decide) (by decide), b2 184 (by decide) (by decide)]; exact (f3 j hj).1
    · rw [hI 185 (by decide) (by decide), b2 185 (by decide) (by decide)]; exact (f3 j hj).2.1
    · rw [hI 186 (by decide) (by decide), b2 186 (by decide) (by decide)]; exact (f3 j hj).2.2
    · rw [hI 187 (by decide) (by decide), b3 _ (by omega), f4, if_neg (by omega)]
    · rw [hI 188 (by decide) (by decide), b2 188 (by decide) (by decide), f5, if_neg (by omega)]
    · rw [hI 189 (by decide) (by decide), b4 _ (by omega), f6, if_neg (by omega)]
    · rw [hI 190 (by decide) (by decide), b2 190 (by decide) (by decide), f7, if_neg (by omega)]
    · refine ⟨?_, ?_, ?_, fun u z hz => ?_⟩
      · rw [hI 184 (by decide) (by decide), b2 184 (by decide) (by decide), f2.1]
        show nI 0 = nI (kdOf K (qsG i to an (eqN to an K) K))
        rw [kd]
      · rw [hI 185 (by decide) (by decide), b2 185 (by decide) (by decide), f2.2.1, haN]
      · rw [hI 186 (by decide) (by decide), b2 186 (by decide) (by decide), f2.2.2]; rfl
      · obtain ⟨r, r1, rfl⟩ := qsG_get hz
        obtain ⟨r2, r3, r4⟩ := rpL_get r1
        have hu : cls (eqN to an K) r = u := by rw [cls_rep hE r3, r4]
        have hu14 := hcl r r2
        obtain ⟨t1, t2⟩ := b5 r r2
        rw [hu] at t1 t2 hu14
        refine ⟨by rw [hI 187 (by decide) (by decide)]; exact t1, (fun hh => by cases hh), fun r' hr' => ?_⟩
        cases hr'
        refine ⟨by rw [hI 188 (by decide) (by decide), b2 188 (by decide) (by decide), f5, if_pos (by omega)]; simp, fun a x hx => ?_⟩
        obtain ⟨a1, rfl⟩ := rng_get hx
        refine ⟨by rw [hI 189 (by decide) (by decide)]; exact t2 a a1, fun h3 => ?_⟩
        exfalso
        have h3' : kdOf K (qsG i to an (eqN to an K) K) = 3 := h3
        rw [kd] at h3'
        cases h3'
  · have hi : i < N := by omega
    have hci := hcl i hi
    have a1 := (g5 i hi).1
    rw [if_neg (by rw [leNN (by omega) (by omega)]; omega), vpN (by omega), nI_clamp (by omega), fr 209 (by decide), h9 i hi, forall_eq, fr 208 (by decide), (g5 i hi).2]
    refine ⟨by omega, by omega, ?_⟩
    have go : ∀ v : Nat, v = an i → f_Model_joinedAt_b55 (nI t) (nI K) (nI i) (nI (cls (eqN to an K) i)) ((14 * nI t) + nI (cls (eqN to an K) i)) (nI v) (f_Model_joinedAt_L11 (nI t) (nI K) (fun (I : MI) (J : MJ) => vp_in (nI t) 16 ∧ ∀ I113 : MI, I113 = sI I 178 (upd (I 178) (nI t).toNatClampNeg 0) → vp_in (nI t) 16 ∧ ∀ I120 : MI, I120 = sI I113 181 (upd (I113 181) (nI t).toNatClampNeg 0) → f_Model_done (nI (cr (eqN to an K) N)) I120 J (fun r123 I123 J123 => Q r123 I123 J123)) f) I2 J := by
      intro v hv
      unfold f_Model_joinedAt_b55
      rw [l14, pk_mul, nI_add, vpN (by omega), nI_clamp (by omega)]
      refine ⟨by omega, fun I3 e3 => ?_⟩
      refine lp2 (fun f (a : Nat) (I4 : MI) => f_Model_joinedAt_L59 (nI t) (nI K) (nI i) (nI (cls (eqN to an K) i)) _ f (nI a) I4 J) (fun a I4 => a ≤ K ∧ (∀ c, c ≠ 189 → I4 c = I3 c) ∧ (∀ l, (l < 4 * (14 * t + cls (eqN to an K) i) ∨ 4 * (14 * t + cls (eqN to an K) i) + 4 ≤ l) → I4 189 l = I3 189 l) ∧ ∀ b, b < a → I4 189 (4 * (14 * t + cls (eqN to an K) i) + b) = enO ((to i b).map (cls (eqN to an K)))) (fun a _ => 5 - a) ?_ 0 I3 ⟨Nat.zero_le _, fun _ _ => rfl, fun _ _ => rfl, fun b hb => absurd hb (Nat.not_lt_zero _)⟩
      rintro f' a I4 ⟨c1, c2, c3, c4⟩ ih2
      unfold f_Model_joinedAt_L59
      have fr4 : ∀ c, (c < 184 ∨ 190 < c) → I4 c = I c := fun c hc => by rw [c2 c (by omega), e3, sI_n _ _ (by omega), fr c hc]
      by_cases ea : a = K
      · subst ea
        rw [if_pos (by rw [leNN (by omega) (by omega)]; exact Nat.le_refl _), nI_1, forall_eq]
        refine ih (i + 1) I4 ⟨by omega, fun c u w => by rw [c2 c w, e3, sI_n _ _ u, b2 c u w], fun j hj => by rw [c2 187 (by decide), e3, sI_s, upd_at, if_neg (by omega)]; exact b3 j hj, fun j hj => by rw [c3 j (by omega), e3, sI_n _ _ (by decide)]; exact b4 j hj, fun j hj => ?_⟩ (by omega)
        have m7 : ∀ l, I4 187 l = if l = 14 * t + cls (eqN to an a) i then nI v else I2 187 l := fun l => by rw [c2 187 (by decide), e3, sI_s, upd_at]
        by_cases hji : j = i
        · subst hji
          exact ⟨by rw [m7, if_pos rfl, hv], c4⟩
        · obtain ⟨t1, t2⟩ := b5 j (by omega)
          by_cases hcc : cls (eqN to an a) j = cls (eqN to an a) i
          · have hee := (cls_eq hE).mp hcc
            rw [hcc]
            have e0 : an j = an i := hee [] (by simp)
            refine ⟨by rw [m7, if_pos rfl, hv, e0], fun b hb => ?_⟩
            rw [c4 b hb, eq_map h7 hc (show j < N by omega) hi hb hee]
          · have hcj := hcl j (by omega)
            refine ⟨by rw [m7, if_neg (by omega)]; exact t1, fun b hb => ?_⟩
            rw [c3 _ (by omega), e3, sI_n _ _ (by decide)]
            exact t2 b hb
      · obtain ⟨x, x1, x2, x3⟩ := g6 i a hi (by omega)
        have hcx := hcl x x2
        rw [if_neg (by rw [leNN (by omega) (by omega)]; omega), spotN, l4, pk_mul, nI_add, vpN (by omega), nI_clamp (by omega), fr4 207 (by decide), x3, vpN (by omega), nI_clamp (by omega), vpN (by omega), nI_clamp (by omega), fr4 209 (by decide), h9 x x2]
        refine ⟨by omega, by omega, by omega, fun I5 e5 s es => ?_⟩
        rw [es, nI_1 a]
        refine ih2 (a + 1) I5 ⟨by omega, fun c u => by rw [e5, sI_n _ _ u, c2 c u], fun l hl => by rw [e5, sI_s, upd_at, if_neg (by omega)]; exact c3 l hl, fun b hb => ?_⟩ (by omega)
        rw [e5, sI_s, upd_at]
        by_cases hba : b = a
        · rw [if_pos (by omega), hba, x1]; rfl
        · rw [if_neg (by omega)]; exact c4 b (by omega)
    by_cases z : an i = 0
    · rw [if_pos (by rw [z]; rfl)]; exact go 0 z.symm
    · rw [if_neg (nI_ne0 (by omega) (by omega))]; exact go 1 (by omega)
theorem m_above {m : Nat} {A : AM} {I : MI} {J : MJ} {Q : Int32 → MI → MJ → Prop} (hm : m < 20) (hA : RepM I m A) (hv : VA A) (q : Q (if ab1 A = true then 1 else 0) I J) : f_Model_isAbove (nI m) I J Q := by
  unfold f_Model_isAbove
  have h14 := hv.2.2.2.2.1
  refine lp2 (fun n (b : Bool) (s : Nat) => f_Model_isAbove_L4 (nI m) _ n (if b = true then 1 else 0) (nI s) I J) (fun b s => s ≤ aN A ∧ b = (A.2.2.take s).any (fun q => decide (1 < q.2))) (fun _ s => aN A - s) ?_ false 0 ⟨Nat.zero_le _, by simp⟩
  rintro n b s ⟨b1, b2⟩ ih
  unfold f_Model_isAbove_L4
  rw [vpN (by omega), nI_clamp (by omega), hA.2.1]
  refine ⟨hm, ?_⟩
  by_cases es : s = aN A
  · rw [if_pos (by rw [es, leNN (by omega) (by omega)]; exact Nat.le_refl _)]
    refine ⟨by cases b <;> simp, ?_⟩
    have : b = ab1 A := by rw [b2, es]; unfold ab1 aN; rw [List.take_length]
    rw [this]
    exact q
  · have hs' : s < aN A := by omega
    obtain ⟨z, hz⟩ := VA.get hs'
    have h7 := anS_8 hv hs'
    rw [anS_of hz] at h7
    have hta := take_any (f := fun q : Option ROW × Nat => decide (1 < q.2)) hz
    rw [← b2] at hta
    rw [if_neg (by rw [leNN (by omega) (by omega)]; omega)]
    unfold f_Model_isAbove_b33 f_Model_isAbove_b38
    rw [nI_1, forall_eq, forall_eq]
    cases b with
    | true =>
      rw [if_neg (by decide)]
      exact ih true (s + 1) ⟨by omega, by rw [hta]; simp⟩ (by omega)
    | false =>
      rw [if_pos (show (if false = true then (1 : Int32) else 0) = 0 from rfl), l14, pk_mul, nI_add, vpN (by omega), nI_clamp (by omega), (hA.2.2.2 s z hz).1]
      refine ⟨by omega, ?_⟩
      by_cases c : z.2 ≤ 1
      · rw [if_pos (by rw [l1, leNN (by omega) (by decide)]; exact c)]
        exact ih false (s + 1) ⟨by omega, by rw [hta]; simp; omega⟩ (by omega)
      · rw [if_neg (by rw [l1, leNN (by omega) (by decide)]; exact c)]
        exact ih true (s + 1) ⟨by omega, by rw [hta]; simp; omega⟩ (by omega)
theorem SeF.ms {I I' : MI} {J : MJ} (h : SeF I I') : MSc I I' J J := ⟨fun k hk => h.2 k (by intro e; subst e; revert hk; decide) (by intro e; subst e; revert hk; decide) (by intro e; subst e; revert hk; decide), fun i hi => h.1 i (by omega) (by omega) (by omega) (by omega) (by omega), fun q _ => MEq.of (fun i a b => h.1 i (by omega) (by omega) (by omega) (by omega) (by omega)), ⟨rfl, rfl, rfl, rfl, rfl⟩, ⟨fun i hi => h.1 i (by omega) (by omega) (by omega) (by omega) (by omega), fun _ _ => rfl⟩⟩
theorem ClF.ms {I I' : MI} {J : MJ} (h : ClF I I') : MSc I I' J J := ⟨fun k _ => by rw [h 177 (by decide) (by decide)], fun i hi => h i (by omega) (by omega), fun q _ => MEq.of (fun i a b => h i (by omega) (by omega)), ⟨rfl, rfl, rfl, rfl, rfl⟩, ⟨fun i hi => h i (by omega) (by omega), fun _ _ => rfl⟩⟩
theorem m_joinA {how t : Nat} {A B : AM} {I0 I : MI} {J0 J : MJ} {σ : SG} {Q : Int32 → MI → MJ → Prop} (h5 : how ≤ 5) (h2 : how = 2 → B = A) (hj : JnM I A B) (hv : VL A) (hw : VL B) (ht : t < 16) (h : AbsM I J σ) (hf : FrM I0 I J0 J) (q : KM I0 J0 (match joinA how A B with | .inl v => ref v σ | .inr C => don (nI (aN C)) (setF (setD σ t (some (.inl C))) t (σ.2.1 t))) Q) : f_Model_join_b189 (nI how) (nI t) (nI (kJ A B)) Q I J := by
  unfold f_Model_join_b189
  have hk := kJ_4 hv.1 hw.1
  have hLM := LM_LJ hv.1 hw.1 h2
  refine m_sets hj h5 h2 hv.1 hw.1 (by have := hv.2.1; omega) (by have := hw.2.1; omega) hk.2 (fun hl I1 f1 => ?_) (fun hl I1 f1 st tb => ?_)
  · rw [if_pos rfl]
    have e : joinA how A B = .inl 5 := by unfold joinA; rw [if_pos (hLM.1.mp hl)]
    rw [e] at q
    exact KM.ref' q (hf.tr (f1.ms (J := J)).2.2.2.2) ((f1.ms).abs h)
  · have hnl : ¬ mJ how < (LJ how A B).length := fun hh => by have := hLM.1.mpr hh; omega
    rw [hLM.2 (by omega)] at st tb
    rw [if_neg (by decide)]
    have hLmb := mJ_b how
    have gj : GJ I1 (LJ how A B).length (kJ A B) (toJ how A B) (aJ how A B) := by
      refine ⟨st.1, by omega, LJ_1 how A B, hk.2, fun i hi => ?_, fun i a hi ha => ?_⟩
      · have hx := List.getElem?_eq_getElem hi
        have e : aJ how A B i = anJ how A B (LJ how A B)[i] := anL_of hx
        rw [e]
        exact ⟨anJ_1 _ _ _ _, (tb i _ hi hx).1⟩
      · have hx := List.getElem?_eq_getElem hi
        obtain ⟨j, j1, j2⟩ := (tb i _ hi hx).2 a ha
        exact ⟨j, toL_some (bfB_nd _ _ _ _) hx rfl j1, (List.getElem?_eq_some_iff.mp j1).1, j2⟩
    refine m_classes gj (fun m I2 f2 hm1 hm2 hm3 => ?_)
    by_cases e14 : m ≤ 14
    · rw [if_pos (by rw [l14, leNN (by omega) (by decide)]; exact e14)]
      obtain ⟨rfl, h9⟩ := hm3 e14
      have hn14 : ¬ 14 < cr (eqJ how A B) (LJ how A B).length := fun hh => by have := hm2.mpr hh; omega
      have e : joinA how A B = .inr (mkJ how A B) := by unfold joinA; rw [if_neg hnl, if_neg hn14]
      rw [e] at q
      exact m_joinAt ht (f2.gj gj) hk.1 e14 h9 ((f2.ms).abs ((f1.ms).abs h)) (hf.tr ((f1.ms (J := J)).tr f2.ms).2.2.2.2) q
    · rw [if_neg (by rw [l14, leNN (by omega) (by decide)]; exact e14)]
      have e : joinA how A B = .inl 5 := by unfold joinA; rw [if_neg hnl, if_pos (show 14 < cr (eqJ how A B) (LJ how A B).length from hm2.mp (by omega))]
      rw [e] at q
      exact KM.ref' q (hf.tr ((f1.ms (J := J)).tr f2.ms).2.2.2.2) ((f2.ms).abs ((f1.ms).abs h))
theorem m_joinK {how t two : Nat} {A B : AM} {I0 I : MI} {J0 J : MJ} {σ : SG} {Q : Int32 → MI → MJ → Prop} (h5 : how ≤ 5) (h2 : two = 0 → B = A) (htwo : two = (if how = 0 ∨ how = 1 ∨ how = 3 then 1 else 0)) (hj : JnM I A B) (vl1 : VL A) (vl2 : VL B) (ht : t < 16) (h : AbsM I J σ) (hf : FrM I0 I J0 J) (q : KM I0 J0 (match (if ab1 A = true then .inl 4 else if ab1 B = true then .inl 4 else joinA how A B : Int32 ⊕ AM) with | .inl v => ref v σ | .inr C => don (nI (aN C)) (setF (setD σ t (some (.inl C))) t (σ.2.1 t))) Q) : f_Model_isAbove (18 : Int32) I J (fun r129 I129 J129 => (if r129 = 0 then f_Model_isAbove (19 : Int32) I129 J129 (fun r138 I138 J138 => (if r138 = 0 then (if nI two = 0 then f_Model_join_b182 (nI how) (nI t) Q I138 J138 else vp_in 19 20 ∧ vp_in 18 20 ∧ (if (I138 186 (19 : Int32).toNatClampNeg) ≤ (I138 186 (18 : Int32).toNatClampNeg) then f_Model_join_b182 (nI how) (nI t) Q I138 J138 else vp_in 19 20 ∧ f_Model_join_b189 (nI how) (nI t) (I138 186 (19 : Int32).toNatClampNeg) Q I138 J138)) else f_Model_join_b144 Q I138 J138)) else f_Model_join_b144 Q I129 J129)) := by
  have h22 : how = 2 → B = A := fun e => h2 (by rw [htwo, if_neg (by omega)])
  obtain ⟨r1, r2⟩ := id hj
  refine m_above (m := 18) (by decide) r1 vl1.1 ?_
  cases c1 : ab1 A with
  | true =>
    rw [c1, if_pos rfl] at q
    exact KM.ref' q hf h
  | false =>
    rw [c1, if_neg (by decide)] at q
    show f_Model_isAbove (19 : Int32) I J _
    refine m_above (m := 19) (by decide) r2 vl2.1 ?_
    cases c2 : ab1 B with
    | true =>
      rw [c2, if_pos rfl] at q
      exact KM.ref' q hf h
    | false =>
      rw [c2, if_neg (by decide)] at q
      have fin := m_joinA h5 h22 hj vl1 vl2 ht h hf q
      have ka := vl1.1.2.2.1
      have kb := vl2.1.2.2.1
      show (if nI two = 0 then f_Model_join_b182 (nI how) (nI t) Q I J else vp_in 19 20 ∧ vp_in 18 20 ∧ (if (I 186 19) ≤ (I 186 18) then f_Model_join_b182 (nI how) (nI t) Q I J else vp_in 19 20 ∧ f_Model_join_b189 (nI how) (nI t) (I 186 19) Q I J))
      unfold f_Model_join_b182
      have v18 : vp_in 18 20 := (vpN (n := 18) (by decide)).mpr (by decide)
      have v19 : vp_in 19 20 := (vpN (n := 19) (by decide)).mpr (by decide)
      rw [show I 186 (18 : Int32).toNatClampNeg = nI A.2.1 from r1.2.2.1, r1.2.2.1, r2.2.2.1]
      unfold kJ at fin
      by_cases h0 : two = 0
      · rw [if_pos (by rw [h0]; rfl)]
        rw [h2 h0, if_neg (Nat.lt_irrefl _)] at fin
        exact ⟨v18, fin⟩
      · rw [if_neg (nI_ne0 (by omega) (by rw [htwo]; split <;> decide))]
        refine ⟨v19, v18, ?_⟩
        by_cases hl : B.2.1 ≤ A.2.1
        · rw [if_pos (by rw [leNN (by omega) (by omega)]; exact hl)]
          rw [if_neg (by omega)] at fin
          exact ⟨v18, fin⟩
        · rw [if_neg (by rw [leNN (by omega) (by omega)]; exact hl)]
          rw [if_pos (by omega)] at fin
          exact ⟨v19, fin⟩
theorem m_joinR {how p r t two : Nat} {A B : AM} {I : MI} {J : MJ} {σ : SG} {Q : Int32 → MI → MJ → Prop} (h5 : how ≤ 5) (h2 : two = 0 → B = A) (htwo : two = (if how = 0 ∨ how = 1 ∨ how = 3 then 1 else 0)) (hp : p < 16) (hr : r < 16) (h : AbsM I J σ) (hA : RepM I p A) (hB : RepM I r B) (hv : VA A) (hw : VA B) (ht : t < 16) (q : KM I J (match joinR how A B with | .inl v => ref v σ | .inr C => don (nI (aN C)) (setF (setD σ t (some (.inl C))) t (σ.2.1 t))) Q) : f_Model_findLeast (nI p) (18 : Int32) I J (fun r95 I95 J95 => (if r95 = 0 then f_Model_join_b120 Q I95 J95 else f_Model_join_b112 (nI how) (nI t) (nI two) (nI r) Q I95 J95)) := by
  refine m_least (t := 18) (by omega) (by decide) (by decide) hA hv (fun hg I1 J1 s1 _ => ?_) (fun hg I1 J1 s1 me1 r1 _ => ?_)
  · rw [if_pos rfl]
    have e : joinR how A B = .inl 5 := by unfold joinR; rw [if_pos hg]
    rw [e] at q
    exact KM.ref' q s1.2.2.2.2 (s1.abs h)
  · rw [if_neg (by decide)]
    unfold f_Model_join_b112 f_Model_join_b120
    have vl1 := leastA_VL hv hg
    refine m_least (t := 19) (by omega) (by decide) (by decide) (hB.kp hw (s1.2.2.1 r (by omega))) hw (fun hg2 I2 J2 s2 _ => ?_) (fun hg2 I2 J2 s2 me2 r2 _ => ?_)
    · rw [if_pos rfl]
      have e : joinR how A B = .inl 5 := by unfold joinR; rw [if_neg hg, if_pos hg2]
      rw [e] at q
      exact KM.ref' q (s1.tr s2).2.2.2.2 ((s1.tr s2).abs h)
    · rw [if_neg (by decide)]
      have vl2 := leastA_VL hw hg2
      have r1' : RepM I2 18 (leastA A) := r1.kp vl1.1 (me2 18 (by decide) (by decide))
      have s12 := s1.tr s2
      have e : joinR how A B = (if ab1 (leastA A) = true then .inl 4 else if ab1 (leastA B) = true then .inl 4 else joinA how (leastA A) (leastA B)) := by
        unfold joinR
        rw [if_neg hg, if_neg hg2]
      rw [e] at q
      exact m_joinK h5 (fun e => by rw [h2 e]) htwo ⟨r1', r2⟩ vl1 vl2 ht (s12.abs h) s12.2.2.2.2 q
theorem M_join {h x y z : Int32} {I : MI} {J : MJ} {σ : SG} {Q : Int32 → MI → MJ → Prop} (ha : AbsM I J σ) (q : KM I J (opJoin h x y z σ) Q) : f_Model_join h x y z I J Q := by
  unfold f_Model_join f_Model_join_b9 f_Model_join_b29
  rcases idx_cases (N := 6) (by decide) h with ⟨how, hh, rfl, eh⟩ | ⟨hb, eh⟩
  · have core : ∀ two : Nat, two = (if how = 0 ∨ how = 1 ∨ how = 3 then 1 else 0) → f_Model_join_b34 (nI how) x y z (nI two) Q I J := by
      intro two htwo
      unfold f_Model_join_b34 f_Model_join_b77
      unfold opJoin at q
      rw [eh] at q
      simp only at q
      rw [M_noM ha]
      rcases maC_cases σ x with ⟨p, A, hp, rfl, ht, e, e0⟩ | ⟨e, e0⟩
      · rw [e] at q
        simp only at q
        have hP := (ha.1 p hp).1
        rw [ht] at hP
        obtain ⟨g1, g2, g3⟩ := hP
        rw [e0, if_pos rfl]
        by_cases h2 : how = 0 ∨ how = 1 ∨ how = 3
        · rw [if_pos h2] at q
          have htwo' := htwo
          rw [if_pos h2] at htwo'
          rw [if_neg (show ¬ nI two = 0 by rw [htwo']; decide), M_noM ha]
          rcases maC_cases σ y with ⟨r, B, hr, rfl, hs, f, f0⟩ | ⟨f, f0⟩
          · rw [f] at q
            simp only at q
            have hP := (ha.1 r hr).1
            rw [hs] at hP
            obtain ⟨k1, k2, k3⟩ := hP
            rw [f0, if_pos rfl]
            rcases plc_cases z with ⟨t, ht', rfl, et⟩ | ⟨hb, et⟩
            · rw [et] at q
              rw [m_isPlaceN ht', if_neg (by decide)]
              simp only [if_neg (show ¬ nI two = 0 by rw [htwo']; decide)]
              exact m_joinR (by omega) (fun e => by omega) htwo hp hr ha g2 k2 g3 k3 ht' q
            · rw [et] at q
              rw [m_isPlaceB hb, if_pos rfl]
              exact q.ref ha
          · rw [f] at q
            rw [if_neg f0, M_noM ha]
            exact q.ref ha
        · rw [if_neg h2] at q
          simp only at q
          have htwo' := htwo
          rw [if_neg h2] at htwo'
          rw [if_pos (show nI two = 0 by rw [htwo']; decide)]
          rcases plc_cases z with ⟨t, ht', rfl, et⟩ | ⟨hb, et⟩
          · rw [et] at q
            rw [m_isPlaceN ht', if_neg (by decide)]
            simp only [if_pos (show nI two = 0 by rw [htwo']; decide)]
            exact m_joinR (by omega) (fun _ => rfl) htwo hp hp ha g2 g2 g3 g3 ht' q
          · rw [et] at q
            rw [m_isPlaceB hb, if_pos rfl]
            exact q.ref ha
      · rw [e] at q
        rw [if_neg e0, M_noM ha]
        exact q.ref ha
    rw [if_neg (nI0_lt (by omega)), if_pos (by rw [l5, leNN (by omega) (by decide)]; omega)]
    by_cases h0 : how = 0
    · subst h0; rw [if_pos (by decide)]; exact core 1 rfl
    · rw [if_neg (by rw [l0, eqNN (by omega) (by decide)]; exact h0)]
      by_cases h1 : how = 1
      · subst h1; rw [if_pos (by decide)]; exact core 1 rfl
      · rw [if_neg (by rw [l1, eqNN (by omega) (by decide)]; exact h1)]
        by_cases h3 : how = 3
        · subst h3; rw [if_pos (by decide)]; exact core 1 rfl
        · rw [if_neg (by rw [l3, eqNN (by omega) (by decide)]; exact h3)]
          exact core 0 (by rw [if_neg (by omega)])
  · unfold opJoin at q
    rw [eh] at q
    have fin := KM.ref q ha
    by_cases h0 : h < 0
    · rw [if_pos h0]; exact fin
    · rw [if_neg h0]
      have hb' : nI 6 ≤ h := hb.elim (fun z => absurd z h0) (fun z => z)
      have h5 : ¬ h ≤ 5 := fun hh => by
        have h1 := Int32.le_iff_toInt_le.mp hh
        have h2 := Int32.le_iff_toInt_le.mp hb'
        rw [nI_toInt (by decide)] at h2
        have : (5 : Int32).toInt = 5 := by decide
        omega
      rw [if_neg h5]
      exact fin
