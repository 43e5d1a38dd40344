/-! fewest, the reference: the search and the machine -/
theorem m_nextT {ks : List (Int64 × Nat)} {k n : Nat} {T : Nat → Nat} {I : MI} {J : MJ} {Q : Int32 → MI → MJ → Prop} (hN : n * k ≤ 56) (hN1 : 1 ≤ n * k) (h0 : 0 < n) (hn : n ≤ 14) (hT : vT n (n * k) T) (hI : TbR I T (n * k)) (hno : noB ks k n (n * k) (vl n T (n * k))) (hnr : ∀ X, (∀ c, c < n * k → X c = T c) → ¬ RgT ks k X) (q1 : ∀ T' I', vT n (n * k) T' → TbR I' T' (n * k) → noB ks k n (n * k) (vl n T' (n * k)) → vl n T (n * k) < vl n T' (n * k) → (∀ c, c ≠ 219 → I' c = I c) → Q 1 I' J) (q0 : (∀ X, vT n (n * k) X → ¬ RgT ks k X) → ∀ I', (∀ c, c ≠ 219 → I' c = I c) → Q 0 I' J) : f_Model_nextTable (nI n) (nI (n * k)) I J Q := by
  unfold f_Model_nextTable
  rw [forall_eq]
  refine lp2 (fun f (a : Nat) (I2 : MI) => f_Model_nextTable_L4 (nI n) _ f (nI a - 1) I2 J) (fun a I2 => a ≤ n * k ∧ (∀ d, d ≠ 219 → I2 d = I d) ∧ (∀ d, d < a → I2 219 d = nI (T d)) ∧ (∀ d, a ≤ d → d < n * k → I2 219 d = 0) ∧ ∀ d, a ≤ d → d < n * k → T d + 1 = n) (fun a _ => a) ?_ (n * k) I ⟨Nat.le_refl _, fun _ _ => rfl, hI, (fun d d1 d2 => by omega), (fun d d1 d2 => by omega)⟩
  rintro f2 a I2 ⟨c1, c2, c3, c4, c5⟩ ih2
  unfold f_Model_nextTable_L4 f_Model_nextTable_b33
  cases a with
  | zero =>
    rw [if_pos (by decide), if_neg (by decide)]
    exact q0 (noB_end (Nat.le_refl _) hT hno (fun X _ hX => hnr X hX) (fun c hc => c5 c (Nat.zero_le _) hc)) I2 c2
  | succ a =>
    have hTa := hT a (by omega)
    rw [nI_pred, if_neg (nI0_lt (by omega)), vpN (by omega), nI_clamp (by omega), c3 a (by omega)]
    refine ⟨by omega, ?_⟩
    obtain ⟨n', rfl⟩ : ∃ n', n = n' + 1 := ⟨n - 1, by omega⟩
    rw [nI_pred]
    by_cases hc : T a = n'
    · rw [if_pos (by rw [hc])]
      refine ⟨by omega, fun I3 e3 t et => ?_⟩
      rw [et, m1_add]
      have m : ∀ d, I3 219 d = if d = a then 0 else I2 219 d := fun d => by rw [e3, sI_s, upd_at]
      refine ih2 a I3 ⟨by omega, fun d hd => by rw [e3, sI_n _ _ hd, c2 d hd], fun d hd => by rw [m, if_neg (by omega)]; exact c3 d (by omega), fun d d1 d2 => ?_, fun d d1 d2 => ?_⟩ (by omega)
      · rw [m]
        by_cases hda : d = a
        · rw [if_pos hda]
        · rw [if_neg hda]; exact c4 d (by omega) d2
      · by_cases hda : d = a
        · subst hda; omega
        · exact c5 d (by omega) d2
    · rw [if_neg (by rw [eqNN (by omega) (by omega)]; exact hc), if_pos (nI0_le (by omega))]
      rw [nI_1]
      refine ⟨by omega, by omega, fun I3 e3 => ?_⟩
      have m : ∀ d, I3 219 d = if d = a then nI (T a + 1) else I2 219 d := fun d => by rw [e3, sI_s, upd_at]
      have hT' : vT (n' + 1) ((n' + 1) * k) (fun d => if d < a then T d else if d = a then T a + 1 else 0) := fun d hd => by
        show (if d < a then T d else if d = a then T a + 1 else 0) < n' + 1
        split
        · exact hT d hd
        · split <;> omega
      have hadv := noB_adv (ks := ks) (k := k) (T := T) (T' := fun d => if d < a then T d else if d = a then T a + 1 else 0) (at' := a) (Nat.le_refl _) (by omega) hT hT' hno (fun X _ hX => hnr X hX) (fun d hd => by simp [hd]) (by simp) (fun d d1 d2 => c5 d (by omega) d2) (fun d d1 d2 => by
        show (if d < a then T d else if d = a then T a + 1 else 0) = 0
        rw [if_neg (by omega), if_neg (by omega)])
      refine q1 _ I3 hT' (fun d hd => ?_) hadv.1 hadv.2 (fun d hd => by rw [e3, sI_n _ _ hd, c2 d hd])
      show I3 219 d = nI (if d < a then T d else if d = a then T a + 1 else 0)
      rw [m]
      by_cases hda : d = a
      · rw [if_pos hda, if_neg (by omega), if_pos hda]
      · rw [if_neg hda]
        by_cases hdl : d < a
        · rw [if_pos hdl]; exact c3 d (by omega)
        · rw [if_neg hdl, if_neg hda]; exact c4 d (by omega) hd
theorem RgT_agree {ks : List (Int64 × Nat)} {k n : Nat} {T X : Nat → Nat} (h0 : 0 < n) (hT : vT n (n * k) T) (hs : ∀ q ∈ ks, ∀ a ∈ wdW q.1, a < k) (h : ∀ c, c < n * k → X c = T c) (hR : RgT ks k X) : RgT ks k T := fun q hq r hr hne e => hR q hq r hr hne (by
  have hX : ∀ c, c < n * k → T c = X c := fun c hc => (h c hc).symm
  rw [← eT_agree hT hX (wdW q.1) 0 h0 (hs q hq), ← eT_agree hT hX (wdW r.1) 0 h0 (hs r hr)]
  exact e)
theorem m_find {ks : List (Int64 × Nat)} {k n : Nat} {I : MI} {J : MJ} {Q : Int32 → MI → MJ → Prop} (h : KnM I J ks) (h0 : 0 < n) (hn : n ≤ 14) (hk1 : 1 ≤ k) (hk : k ≤ 4) (hs : ∀ q ∈ ks, ∀ a ∈ wdW q.1, a < k) (q1 : ∀ T I', fstT ks k n T → kpM I I' → TbR I' T (n * k) → (∀ (v : Nat) (z : Int64 × Nat), ks[v]? = some z → I' 220 v = nI (eT k T 0 (wdW z.1))) → Q 1 I' J) (q0 : (∀ X, vT n (n * k) X → ¬ RgT ks k X) → ∀ I', kpM I I' → Q 0 I' J) : f_Model_findTable (nI n) (nI k) I J Q := by
  have hN : n * k ≤ 56 := Nat.mul_le_mul hn hk
  have hN1 : 1 ≤ n * k := Nat.mul_le_mul (show 1 ≤ n by omega) hk1
  unfold f_Model_findTable
  refine lp2 (fun f (c : Nat) (I1 : MI) => f_Model_findTable_L2 (nI n) (nI k) _ f (nI c) I1 J) (fun c I1 => c ≤ n * k ∧ (∀ d, d ≠ 219 → I1 d = I d) ∧ ∀ d, d < c → I1 219 d = 0) (fun c _ => n * k - c) ?_ 0 I ⟨Nat.zero_le _, fun _ _ => rfl, fun d hd => absurd hd (Nat.not_lt_zero _)⟩
  rintro f c I1 ⟨b1, b2, b3⟩ ih
  unfold f_Model_findTable_L2
  rw [pk_mul]
  by_cases ec : c = n * k
  rotate_left
  · rw [if_neg (by rw [leNN (by omega) (by omega)]; omega), vpN (by omega), nI_clamp (by omega)]
    refine ⟨by omega, fun I2 e2 t et => ?_⟩
    rw [et, nI_1 c]
    refine ih (c + 1) I2 ⟨by omega, fun d hd => by rw [e2, sI_n _ _ hd, b2 d hd], fun d hd => ?_⟩ (by omega)
    rw [e2, sI_s, upd_at]
    by_cases hdc : d = c
    · rw [if_pos hdc]
    · rw [if_neg hdc]; exact b3 d (by omega)
  rw [if_pos (by rw [ec, leNN (by omega) (by omega)]; exact Nat.le_refl _)]
  rw [ec] at b3
  have kp1 : kpM I I1 := fun d u _ => b2 d u
  have hT0 : vT n (n * k) (fun _ => 0) := fun _ _ => h0
  -- the loop, by what is known of the table at hand
  have loop : ∀ (T : Nat → Nat) (I2 : MI), kpM I I2 → vT n (n * k) T → TbR I2 T (n * k) → noB ks k n (n * k) (vl n T (n * k)) → ¬ RgT ks k T → ∃ n', f_Model_findTable_L31 (nI n) (nI k) (fun (z72_x3 : Int32) (I : MI) (J : MJ) => (z72_x3 = 0 ∨ z72_x3 = 1) ∧ Q z72_x3 I J) n' 0 1 I2 J := by
    intro T I2 kp2 hT hI2 hno hnr
    refine lp3 (fun f' (b m : Bool) (I3 : MI) => f_Model_findTable_L31 (nI n) (nI k) _ f' (if b = true then 1 else 0) (if m = true then 1 else 0) I3 J) (fun b m I3 => kpM I I3 ∧ (b = true → ∃ T, fstT ks k n T ∧ TbR I3 T (n * k) ∧ ∀ (v : Nat) (z : Int64 × Nat), ks[v]? = some z → I3 220 v = nI (eT k T 0 (wdW z.1))) ∧ (b = false → m = false → ∀ X, vT n (n * k) X → ¬ RgT ks k X) ∧ (b = false → m = true → ∃ T, vT n (n * k) T ∧ TbR I3 T (n * k) ∧ noB ks k n (n * k) (vl n T (n * k)) ∧ ¬ RgT ks k T)) (fun b m I3 => if b = false ∧ m = true then 1 + (n ^ (n * k) - vl n (fun c => (I3 219 c).toNatClampNeg) (n * k)) else 0) ?_ false true I2 ⟨kp2, (fun hh => by cases hh), (fun _ hh => by cases hh), fun _ _ => ⟨T, hT, hI2, hno, hnr⟩⟩
    rintro f' b m I3 ⟨c1, c2, c3, c4⟩ ih2
    unfold f_Model_findTable_L31
    cases b with
    | true =>
      obtain ⟨T, d1, d2, d3⟩ := c2 rfl
      rw [if_neg (by decide)]
      exact ⟨Or.inr rfl, q1 T I3 d1 c1 d2 d3⟩
    | false =>
      rw [if_pos (show (if false = true then (1 : Int32) else 0) = 0 from rfl)]
      cases m with
      | false =>
        rw [if_pos (show (if false = true then (1 : Int32) else 0) = 0 from rfl)]
        exact ⟨Or.inl rfl, q0 (c3 rfl rfl) I3 c1⟩
      | true =>
        obtain ⟨T, d1, d2, d3, d4⟩ := c4 rfl rfl
        have hvlT : vl n (fun c => (I3 219 c).toNatClampNeg) (n * k) = vl n T (n * k) := vl_agree (fun c hc => by
          show (I3 219 c).toNatClampNeg = T c
          have := d1 c hc
          rw [d2 c hc, nI_clamp (by omega)])
        rw [if_neg (by decide), pk_mul]
        unfold f_Model_findTable_b67 f_Model_findTable_b68
        refine m_nextT hN hN1 h0 hn d1 d2 d3 (fun X hX hR => d4 (RgT_agree h0 d1 hs hX hR)) (fun T' I4 e1 e2 e3 e4 e5 => ?_) (fun hno I4 e5 => ?_)
        · rw [if_neg (by decide)]
          have kp4 : kpM I I4 := c1.tr (fun d u _ => e5 d u)
          have lt4 := vl_lt e1
          refine m_right (kp4.kn h) hN h0 hn hk e1 e2 hs (fun hR I5 g1 g2 => ?_) (fun hR I5 g1 => ?_)
          · rw [if_neg (by decide)]
            refine ih2 true true I5 ⟨kp4.tr (fun d _ u => g1 d u), (fun _ => ⟨T', ⟨e1, hR, e3⟩, (fun c hc => by rw [g1 219 (by decide)]; exact e2 c hc), g2⟩), (fun hh => by cases hh), (fun hh => by cases hh)⟩ ?_
            simp
            omega
          · rw [if_pos rfl]
            have hvl5 : vl n (fun c => (I5 219 c).toNatClampNeg) (n * k) = vl n T' (n * k) := vl_agree (fun c hc => by
              show (I5 219 c).toNatClampNeg = T' c
              have := e1 c hc
              rw [g1 219 (by decide), e2 c hc, nI_clamp (by omega)])
            refine ih2 false true I5 ⟨kp4.tr (fun d _ u => g1 d u), (fun hh => by cases hh), (fun _ hh => by cases hh), fun _ _ => ⟨T', e1, (fun c hc => by rw [g1 219 (by decide)]; exact e2 c hc), e3, hR⟩⟩ ?_
            simp only [and_self, if_true, hvlT, hvl5]
            omega
        · rw [if_pos rfl]
          refine ih2 false false I4 ⟨c1.tr (fun d u _ => e5 d u), (fun hh => by cases hh), (fun _ _ => hno), (fun _ hh => by cases hh)⟩ ?_
          simp
          omega
  refine m_right (kp1.kn h) hN h0 hn hk hT0 b3 hs (fun hR I2 g1 g2 => ?_) (fun hR I2 g1 => ?_)
  · refine ⟨1, ?_⟩
    unfold f_Model_findTable_L31
    rw [if_neg (by decide)]
    exact ⟨Or.inr rfl, q1 (fun _ => 0) I2 ⟨hT0, hR, noB_0⟩ (kp1.tr (fun d _ u => g1 d u)) (fun c hc => by rw [g1 219 (by decide)]; exact b3 c hc) g2⟩
  · exact loop (fun _ => 0) I2 (kp1.tr (fun d _ u => g1 d u)) hT0 (fun c hc => by rw [g1 219 (by decide)]; exact b3 c hc) noB_0 hR
theorem m_put_t {t k n : Nat} {T : Nat → Nat} {I : MI} {J : MJ} {kk : MI → MJ → Prop} (ht : t < 16) (h0 : 0 < n) (hn : n ≤ 14) (hk1 : 1 ≤ k) (hk : k ≤ 4) (hI : TbR I T (n * k)) (q : ∀ I', (∀ c, c ≠ 189 → I' c = I c) → (∀ j, (j < 56 * t ∨ 56 * t + 56 ≤ j) → I' 189 j = I 189 j) → (∀ s a, s < n → a < k → I' 189 (4 * (14 * t + s) + a) = nI (T (s * k + a))) → kk I' J) : ∃ f, f_Model_fewest_L96 (nI t) (nI k) (nI n) kk f 0 I J := by
  have hN : n * k ≤ 56 := Nat.mul_le_mul hn hk
  refine lp2 (fun f (i : Nat) (I1 : MI) => f_Model_fewest_L96 (nI t) (nI k) (nI n) kk f (nI i) I1 J) (fun i I1 => i ≤ n * k ∧ (∀ c, c ≠ 189 → I1 c = I c) ∧ (∀ j, (j < 56 * t ∨ 56 * t + 56 ≤ j) → I1 189 j = I 189 j) ∧ ∀ s a, s < n → a < k → s * k + a < i → I1 189 (4 * (14 * t + s) + a) = nI (T (s * k + a))) (fun i _ => n * k - i) ?_ 0 I ⟨Nat.zero_le _, fun _ _ => rfl, fun _ _ => rfl, fun s a _ _ hlt => absurd hlt (Nat.not_lt_zero _)⟩
  rintro f i I1 ⟨b1, b2, b3, b4⟩ ih
  unfold f_Model_fewest_L96
  rw [pk_mul]
  by_cases ei : i = n * k
  · rw [if_pos (by rw [ei, leNN (by omega) (by omega)]; exact Nat.le_refl _)]
    exact q I1 b2 b3 (fun s a hs ha => b4 s a hs ha (by rw [ei]; exact cell_lt hs ha))
  · have hdm := Nat.div_add_mod i k
    have hmod : i % k < k := Nat.mod_lt _ hk1
    have hdiv : i / k < n := Nat.div_lt_of_lt_mul (by rw [Nat.mul_comm]; omega)
    have hr : 56 * t ≤ 4 * (14 * t + i / k) + i % k ∧ 4 * (14 * t + i / k) + i % k < 56 * t + 56 := by
      generalize i / k = d at hdiv ⊢
      generalize i % k = m at hmod ⊢
      omega
    rw [if_neg (by rw [leNN (by omega) (by omega)]; omega), pk_rem (by omega) hk1 (by omega), pk_div (by omega) hk1 (by omega), spotN, vpN (by omega), nI_clamp (by omega), vpN (by omega), nI_clamp (by omega), b2 219 (by decide), hI i (by omega)]
    refine ⟨nI_ne0 (by omega) (by omega), nI_ne0 (by omega) (by omega), by omega, by omega, fun I2 e2 u eu => ?_⟩
    rw [eu, nI_1 i]
    refine ih (i + 1) I2 ⟨by omega, fun c hc => by rw [e2, sI_n _ _ hc, b2 c hc], fun j hj => by rw [e2, sI_s, upd_at, if_neg (fun e => by rw [e] at hj; exact absurd hj (by generalize 4 * (14 * t + i / k) + i % k = y at hr ⊢; omega))]; exact b3 j hj, fun s a hs ha hlt => ?_⟩ (by omega)
    rw [e2, sI_s, upd_at]
    by_cases hia : s * k + a = i
    · have e1 : i / k = s := by rw [← hia, Nat.mul_comm, Nat.mul_add_div hk1, Nat.div_eq_of_lt ha]; omega
      have e2' : i % k = a := by rw [← hia, Nat.mul_comm, Nat.mul_add_mod, Nat.mod_eq_of_lt ha]
      rw [if_pos (by rw [e1, e2']), hia]
    · have hne : ¬ 4 * (14 * t + s) + a = 4 * (14 * t + i / k) + i % k := fun e => by
        have e1 : s = i / k := by omega
        have e2' : a = i % k := by omega
        apply hia
        rw [e1, e2', Nat.mul_comm]
        exact hdm
      rw [if_neg hne]
      exact b4 s a hs ha (by omega)
theorem m_says_t {ks : List (Int64 × Nat)} {t k n : Nat} {T : Nat → Nat} {I : MI} {J : MJ} {kk : MI → MJ → Prop} (ht : t < 16) (h : KnM I J ks) (h0 : 0 < n) (hn : n ≤ 14) (hT : vT n (n * k) T) (hR : RgT ks k T) (hs : ∀ q ∈ ks, ∀ a ∈ wdW q.1, a < k) (he : ∀ (v : Nat) (z : Int64 × Nat), ks[v]? = some z → I 220 v = nI (eT k T 0 (wdW z.1))) (hz : ∀ u, u < n → I 187 (14 * t + u) = 0) (q : ∀ I', (∀ c, c ≠ 187 → I' c = I c) → (∀ j, (j < 14 * t ∨ 14 * t + 14 ≤ j) → I' 187 j = I 187 j) → (∀ u, u < n → I' 187 (14 * t + u) = nI (fwA ks k T u)) → kk I' J) : ∃ f, f_Model_fewest_L137 (nI t) kk f 0 I J := by
  have h12 := h.1.1
  have gl : ∀ (v : Nat) (z : Int64 × Nat), ks[v]? = some z → eT k T 0 (wdW z.1) < n := fun v z hz => eT_lt hT _ 0 h0 (hs z (List.mem_of_getElem? hz))
  refine lp2 (fun f (i : Nat) (I3 : MI) => f_Model_fewest_L137 (nI t) kk f (nI i) I3 J) (fun i I3 => i ≤ ks.length ∧ (∀ c, c ≠ 187 → I3 c = I c) ∧ (∀ j, (j < 14 * t ∨ 14 * t + 14 ≤ j) → I3 187 j = I 187 j) ∧ (∀ (j : Nat) (z : Int64 × Nat), j < i → ks[j]? = some z → I3 187 (14 * t + eT k T 0 (wdW z.1)) = nI z.2) ∧ ∀ u, u < n → (∀ (j : Nat) (z : Int64 × Nat), j < i → ks[j]? = some z → eT k T 0 (wdW z.1) ≠ u) → I3 187 (14 * t + u) = 0) (fun i _ => ks.length - i) ?_ 0 I ⟨Nat.zero_le _, fun _ _ => rfl, fun _ _ => rfl, (fun j z hj => absurd hj (Nat.not_lt_zero _)), (fun u hu _ => hz u hu)⟩
  rintro f i I3 ⟨c1, c2, c5, c3, c4⟩ ih2
  unfold f_Model_fewest_L137
  rw [c2 177 (by decide), h.2.1]
  by_cases ei : i = ks.length
  · rw [if_pos (by rw [ei, leNN (by omega) (by omega)]; exact Nat.le_refl _)]
    refine q I3 c2 c5 (fun u hu => ?_)
    by_cases hex : ∃ z ∈ ks, eT k T 0 (wdW z.1) = u
    · obtain ⟨z, z1, z2⟩ := hex
      obtain ⟨j, hj⟩ := List.mem_iff_getElem?.mp z1
      rw [← z2, fwA_of hR z1]
      exact c3 j z (by have := (List.getElem?_eq_some_iff.mp hj).1; omega) hj
    · rw [fwA_no (fun z hz e => hex ⟨z, hz, e⟩)]
      exact c4 u hu (fun j z _ hz e => hex ⟨z, List.mem_of_getElem? hz, e⟩)
  · have hz' := List.getElem?_eq_getElem (show i < ks.length by omega)
    generalize ks[i] = z at hz'
    have hg := gl i z hz'
    have kz := h.at' hz'
    rw [if_neg (by rw [leNN (by omega) (by omega)]; omega), vpN (by omega), nI_clamp (by omega), c2 220 (by decide), he i z hz', l14, pk_mul, nI_add, vpN (by omega), nI_clamp (by omega), show I3 218 i = nI z.2 by rw [c2 218 (by decide)]; exact kz.2.2.2.2]
    refine ⟨by omega, by omega, by omega, fun I4 e4 u eu => ?_⟩
    rw [eu, nI_1 i]
    have m : ∀ j, I4 187 j = if j = 14 * t + eT k T 0 (wdW z.1) then nI z.2 else I3 187 j := fun j => by rw [e4, sI_s, upd_at]
    refine ih2 (i + 1) I4 ⟨by omega, fun c hc => by rw [e4, sI_n _ _ hc, c2 c hc], fun j hj => by rw [m, if_neg (by omega)]; exact c5 j hj, fun j y hj hy => ?_, fun u hu hno => ?_⟩ (by omega)
    · rw [m]
      by_cases e : eT k T 0 (wdW y.1) = eT k T 0 (wdW z.1)
      · rw [if_pos (by rw [e])]
        by_cases e2 : y.2 = z.2
        · rw [e2]
        · exact absurd e (hR y (List.mem_of_getElem? hy) z (List.mem_of_getElem? hz') e2)
      · rw [if_neg (by omega)]
        by_cases hji : j = i
        · subst hji; rw [hz'] at hy; cases hy; exact absurd rfl e
        · exact c3 j y (by omega) hy
    · have hne := hno i z (by omega) hz'
      rw [m, if_neg (by omega)]
      exact c4 u hu (fun j y hj hy => hno j y (by omega) hy)
theorem m_fw {ks : List (Int64 × Nat)} {t k n : Nat} {T : Nat → Nat} {I0 I : MI} {J0 J : MJ} {σ : SG} {Q : Int32 → MI → MJ → Prop} (ht : t < 16) (h : AbsM I J σ) (hks : KnM I J ks) (hf : FrM I0 I J0 J) (h0 : 0 < n) (hn : n ≤ 14) (hk1 : 1 ≤ k) (hk : k ≤ 4) (hT : vT n (n * k) T) (hR : RgT ks k T) (hs : ∀ q ∈ ks, ∀ a ∈ wdW q.1, a < k) (hI : TbR I T (n * k)) (he : ∀ (v : Nat) (z : Int64 × Nat), ks[v]? = some z → I 220 v = nI (eT k T 0 (wdW z.1))) (q : KM I0 J0 (don (nI (aN (fwM ks k n T))) (setF (setD σ t (some (.inl (fwM ks k n T)))) t (σ.2.1 t))) Q) : f_Model_fewest_b74 (nI t) (nI k) (nI n) 1 Q I J := by
  unfold f_Model_fewest_b74
  rw [if_neg (by decide)]
  have hvl := fwM_VL hks.1 h0 hn hk1 hk hT
  have haN : aN (fwM ks k n T) = n := fwQ_len ks k n T
  rw [haN] at q
  refine clearK (kd := 0) (by omega) (fun I1 f1 f2 f3 f4 f5 f6 f7 => ?_)
  refine m_put_t ht h0 hn hk1 hk (fun c hc => by rw [f1 219 (by omega)]; exact hI c hc) (fun I2 g1 g2 g3 => ?_)
  have fr2 : ∀ c, (c < 184 ∨ 190 < c) → I2 c = I c := fun c hc => by rw [g1 c (by omega), f1 c hc]
  have kn2 : KnM I2 J ks := by
    unfold KnM at *
    rw [fr2 177 (by omega), fr2 218 (by omega)]
    exact hks
  refine m_says_t ht kn2 h0 hn hT hR hs (fun v z hz => by rw [fr2 220 (by omega)]; exact he v z hz) (fun u hu => by rw [g1 187 (by decide), f4, if_pos (by omega)]) (fun I3 k1 k2 k3 => ?_)
  have raw : RawM I3 t (fwQ ks k n T) := by
    intro u z r hz hr
    obtain ⟨hu, rfl⟩ := fwQ_get hz
    refine ⟨k3 u hu, fun a x hx => ?_⟩
    cases hr
    obtain ⟨a1, rfl⟩ := rng_get hx
    rw [k1 189 (by decide)]
    exact g3 u a hu a1
  refine m_name (m := t) (n := n) (k := k) (qs := fwQ ks k n T) (by omega) (by rw [k1 185 (by decide), g1 185 (by decide), f2.2.1, fwQ_len]) (by rw [fwQ_len]; exact hn) (by rw [k1 186 (by decide), g1 186 (by decide), f2.2.2]) hk hn raw (fwQ_full hks.1 hT) (fun I4 d1 d2 d3 r4 => ?_)
  rw [vpN (by omega), vpN (by omega), nI_clamp (by omega), show I4 184 t = nI (fwM ks k n T).1 from r4.1]
  refine ⟨by omega, by omega, fun I5 e5 => ⟨by omega, fun I6 e6 => ?_⟩⟩
  have hI6 : ∀ c, c ≠ 178 → c ≠ 181 → I6 c = I4 c := fun c u v => by rw [e6, sI_n _ _ v, e5, sI_n _ _ u]
  have fr4 : ∀ c, (c < 184 ∨ 190 < c) → I4 c = I c := fun c hc => by rw [d1 c (by omega) (by omega), k1 c (by omega), fr2 c hc]
  have m1 : ∀ j, I6 178 j = if j = t then nI (fwM ks k n T).1 else I 178 j := fun j => by rw [e6, sI_n _ _ (by decide), e5, sI_s, upd_at, fr4 178 (by omega)]
  have m2 : ∀ j, I6 181 j = if j = t then 0 else I 181 j := fun j => by rw [e6, sI_s, upd_at, e5, sI_n _ _ (by decide), fr4 181 (by omega)]
  have fr6 : ∀ c, (c < 178 ∨ (178 < c ∧ c < 181) ∨ (181 < c ∧ c < 184) ∨ 190 < c) → I6 c = I c := fun c hc => by rw [hI6 c (by omega) (by omega), fr4 c (by omega)]
  have me : ∀ j, j < 20 → j ≠ t → MEq I I6 j := fun j h20 hj => MEq.oth (by rw [hI6 184 (by decide) (by decide), d2 j hj, k1 184 (by decide), g1 184 (by decide)]; exact (f3 j hj).1) (by rw [hI6 185 (by decide) (by decide), d1 185 (by decide) (by decide), k1 185 (by decide), g1 185 (by decide)]; exact (f3 j hj).2.1) (by rw [hI6 186 (by decide) (by decide), d1 186 (by decide) (by decide), k1 186 (by decide), g1 186 (by decide)]; exact (f3 j hj).2.2) (fun l a b => ⟨by rw [hI6 187 (by decide) (by decide), d1 187 (by decide) (by decide), k2 l (by omega), g1 187 (by decide), f4, if_neg (by omega)], by rw [hI6 188 (by decide) (by decide), d3 l (by omega), k1 188 (by decide), g1 188 (by decide), f5, if_neg (by omega)]⟩) (fun l a b => ⟨by rw [hI6 189 (by decide) (by decide), d1 189 (by decide) (by decide), k1 189 (by decide), g2 l (by omega), f6, if_neg (by omega)], by rw [hI6 190 (by decide) (by decide), d1 190 (by decide) (by decide), k1 190 (by decide), g1 190 (by decide), f7, if_neg (by omega)]⟩)
  have r6 : RepM I6 t (fwM ks k n T) := by
    have r4' : RepM I4 t (fwM ks k n T) := r4
    unfold RepM RowM at *
    rw [hI6 184 (by decide) (by decide), hI6 185 (by decide) (by decide), hI6 186 (by decide) (by decide), hI6 187 (by decide) (by decide), hI6 188 (by decide) (by decide), hI6 189 (by decide) (by decide), hI6 190 (by decide) (by decide)]
    exact r4'
  exact KM.don q (hf.tr ⟨fun i hi => fr6 i (by omega), fun _ _ => rfl⟩) (h.at ht (fun j hj h20 => ⟨by rw [m1, if_neg hj], by rw [fr6 179 (by omega)], by rw [m2, if_neg hj], by rw [fr6 182 (by omega)], by rw [fr6 183 (by omega)], me j h20 hj, fun _ _ => rfl⟩) (fun j _ => by rw [fr6 177 (by omega)]) (fr6 218 (by omega)) ⟨rfl, rfl, rfl, rfl⟩ ⟨by rw [m1, if_pos rfl], r6, hvl.1⟩ ((h.1 t ht).2.kp ⟨by rw [fr6 183 (by omega)], by rw [fr6 182 (by omega)]⟩))
theorem M_fewest {x : Int32} {I : MI} {J : MJ} {σ : SG} {Q : Int32 → MI → MJ → Prop} (h : AbsM I J σ) (q : KM I J (opFewest x σ) Q) : f_Model_fewest x I J Q := by
  unfold f_Model_fewest
  unfold opFewest at q
  have hk := h.2.2.2
  have h12 := hk.1.1
  rcases plc_cases x with ⟨t, ht, rfl, et⟩ | ⟨hb, et⟩
  · rw [et] at q
    simp only at q
    rw [m_isPlaceN ht, if_neg (by decide), hk.2.1]
    by_cases h0 : σ.2.2.2.2.length = 0
    · rw [if_pos h0] at q
      rw [if_pos (by rw [h0]; rfl)]
      exact KM.ref q h
    · rw [if_neg h0] at q
      rw [if_neg (nI_ne0 (by omega) (by omega))]
      refine m_signs hk (fun k hkk => ?_)
      rw [kK_eq hkk] at q
      have hs := hkk.2.2.1
      have kpA : ∀ I2, kpM I I2 → AbsM I2 J σ := fun I2 kp => h.scr (fun k _ => by rw [kp 177 (by decide) (by decide)]) (fun i hi => kp i (by omega) (by omega)) (fun q _ => MEq.of (fun i a b => kp i (by omega) (by omega))) ⟨rfl, rfl, rfl, rfl, rfl⟩
      have kpF : ∀ I2, kpM I I2 → FrM I I2 J J := fun I2 kp => ⟨fun i hi => kp i (by omega) (by omega), fun _ _ => rfl⟩
      have few1 : ¬ 20000 < 1 ^ (1 * k) := by rw [Nat.one_pow]; decide
      have body : ∀ (b : Bool) (n : Nat) (I1 : MI), 1 ≤ n → n ≤ 5 → kpM I I1 → (b = true → ∃ T, fstT σ.2.2.2.2 k n T ∧ TbR I1 T (n * k) ∧ (∀ (v : Nat) (z : Int64 × Nat), σ.2.2.2.2[v]? = some z → I1 220 v = nI (eT k T 0 (wdW z.1))) ∧ fwS σ.2.2.2.2 k 7 1 = some (fwM σ.2.2.2.2 k n T)) → (b = false → fwS σ.2.2.2.2 k 7 1 = fwS σ.2.2.2.2 k (7 - n) (n + 1)) → ∃ m, f_Model_fewest_L41 (nI k) (fun (z74_x3 : Int32) (z74_x4 : Int32) (I : MI) (J : MJ) => f_Model_fewest_b74 (nI t) (nI k) z74_x3 z74_x4 Q I J) m (nI n) (if b = true then 1 else 0) I1 J := by
        intro b n I1 hn1 hn5 kp hbt hbf
        refine lp3 (fun f (b : Bool) (n : Nat) (I1 : MI) => f_Model_fewest_L41 (nI k) _ f (nI n) (if b = true then 1 else 0) I1 J) (fun b n I1 => 1 ≤ n ∧ n ≤ 5 ∧ kpM I I1 ∧ (b = true → ∃ T, fstT σ.2.2.2.2 k n T ∧ TbR I1 T (n * k) ∧ (∀ (v : Nat) (z : Int64 × Nat), σ.2.2.2.2[v]? = some z → I1 220 v = nI (eT k T 0 (wdW z.1))) ∧ fwS σ.2.2.2.2 k 7 1 = some (fwM σ.2.2.2.2 k n T)) ∧ (b = false → fwS σ.2.2.2.2 k 7 1 = fwS σ.2.2.2.2 k (7 - n) (n + 1))) (fun b n _ => 7 - n) ?_ b n I1 ⟨hn1, hn5, kp, hbt, hbf⟩
        rintro f b n I1 ⟨b1, b2, b3, b4, b5⟩ ih
        unfold f_Model_fewest_L41
        cases b with
        | true =>
          obtain ⟨T, c1, c2, c3, c4⟩ := b4 rfl
          rw [if_neg (by decide)]
          rw [c4] at q
          exact m_fw ht (kpA I1 b3) (b3.kn hk) (kpF I1 b3) (by omega) (by omega) hkk.1 hkk.2.1 c1.1 c1.2.1 hs c2 c3 q
        | false =>
          have e7 := b5 rfl
          rw [show 7 - n = (6 - n) + 1 by omega] at e7
          rw [if_pos (show (if false = true then (1 : Int32) else 0) = 0 from rfl), nI_1, pk_mul]
          refine m_small (by omega) (by omega) hkk.2.1 (fun hfew => ?_) (fun hno => ?_)
          · rw [if_neg (by decide), forall_eq]
            have hn4 : n ≤ 4 := by
              by_cases hx : n ≤ 4
              · exact hx
              · exfalso
                have e5 : n = 5 := by omega
                subst e5
                have h1 : 6 ^ 6 ≤ 6 ^ (6 * k) := Nat.pow_le_pow_right (by decide) (by have := hkk.1; omega)
                have h2 : (6 : Nat) ^ 6 = 46656 := by decide
                have h3 : (5 + 1) ^ ((5 + 1) * k) = 6 ^ (6 * k) := rfl
                omega
            have hf' : ¬ 20000 < (n + 1) ^ ((n + 1) * k) := by omega
            refine m_find (b3.kn hk) (by omega) (by omega) hkk.1 hkk.2.1 hs (fun T I2 c1 c2 c3 c4 => ?_) (fun hno I2 c2 => ?_)
            · exact ih true (n + 1) I2 ⟨by omega, by omega, b3.tr c2, (fun _ => ⟨T, c1, c3, c4, by rw [e7, fwS_s (by omega) hs hf' c1]⟩), (fun hh => by cases hh)⟩ (by omega)
            · refine ih false (n + 1) I2 ⟨by omega, by omega, b3.tr c2, (fun hh => by cases hh), fun _ => ?_⟩ (by omega)
              rw [e7, fwS_n hf' (fun ⟨T, hT⟩ => hno T hT.1 hT.2.1), show 7 - (n + 1) = 6 - n by omega]
          · rw [if_pos rfl]
            unfold f_Model_fewest_b74
            rw [if_pos (show (if false = true then (1 : Int32) else 0) = 0 from rfl)]
            rw [e7, fwS_0 hno] at q
            exact KM.ref' q (kpF I1 b3) (kpA I1 b3)
      rw [l1]
      refine m_find hk (by decide) (by decide) hkk.1 hkk.2.1 hs (fun T I2 c1 c2 c3 c4 => ?_) (fun hno I2 c2 => ?_)
      · exact body true 1 I2 (Nat.le_refl _) (by decide) c2 (fun _ => ⟨T, c1, c3, c4, fwS_s (by decide) hs few1 c1⟩) (fun hh => by cases hh)
      · exact body false 1 I2 (Nat.le_refl _) (by decide) c2 (fun hh => by cases hh) (fun _ => fwS_n few1 (fun ⟨T, hT⟩ => hno T hT.1 hT.2.1))
  · rw [et] at q
    rw [m_isPlaceB hb, if_pos rfl]
    exact KM.ref q h
