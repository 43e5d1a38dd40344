/-! blame, raise, size, says, leads, what -/
def opBlame (x n : Int32) (σ : SG) : Int32 × SG := match plc x with
  | none => ref 2 σ
  | some p => don 0 (setF (setD σ p (σ.1 p)) p (some n))
def opRaise (x : Int32) (σ : SG) : Int32 × SG := match plc x with
  | none => ref 2 σ
  | some p => match σ.2.1 p with
    | none => ref 1 σ
    | some n => don n (setF (setD σ p (σ.1 p)) p none)
theorem S_blame {x n : Int32} {I : MI} {J : MJ} {σ : SG} {Q : Int32 → MI → MJ → Prop} (h : AbsS I J σ) (q : KS I J (opBlame x n σ) Q) : f_School_blame x n I J Q := by
  unfold f_School_blame
  unfold opBlame at q
  rcases plc_cases x with ⟨p, hp, rfl, e⟩ | ⟨hb, e⟩
  · rw [s_placeFaultN hp, if_pos rfl, nI_clamp (by omega)]
    rw [e] at q
    refine ⟨(vpN (by omega)).mpr hp, fun I1 e1 => ⟨(vpN (by omega)).mpr hp, fun I2 e2 => ?_⟩⟩
    have hI : ∀ i, i ≠ 1 + 64 + 7 * p → I2 i = I i := fun i hi => by rw [e2, sI_n _ _ hi, e1, sI_n _ _ hi]
    have hb : ∀ j, I2 (1 + 64 + 7 * p) j = if j = 6 then n else if j = 5 then 1 else I (1 + 64 + 7 * p) j := fun j => by rw [e2, sI_s, e1, sI_s, upd_at, upd_at]
    refine q.don ⟨fun i hi => hI i (by omega), fun _ _ => rfl⟩ (h.at hp (fun i h1 h2 => hI i (by omega)) (fun _ _ _ => rfl) ((h.1 p hp).1.kp ⟨by rw [hb]; rfl, by rw [hb]; rfl, by rw [hb]; rfl⟩ (fun i h1 h2 => hI i (by omega)) rfl) ⟨by rw [hb]; rfl, by rw [hb]; rfl⟩)
  · rw [s_placeFaultB hb, if_neg (by decide)]
    rw [e] at q
    exact q.ref h
theorem M_blame {x n : Int32} {I : MI} {J : MJ} {σ : SG} {Q : Int32 → MI → MJ → Prop} (h : AbsM I J σ) (q : KM I J (opBlame x n σ) Q) : f_Model_blame x n I J Q := by
  unfold f_Model_blame
  unfold opBlame at q
  rcases plc_cases x with ⟨p, hp, rfl, e⟩ | ⟨hb, e⟩
  · rw [m_isPlaceN hp, if_neg (by decide), nI_clamp (by omega)]
    rw [e] at q
    refine ⟨(vpN (by omega)).mpr hp, fun I1 e1 => ⟨(vpN (by omega)).mpr hp, fun I2 e2 => ?_⟩⟩
    rw [nar1] at e2
    have hI : ∀ i, i ≠ 182 → i ≠ 183 → I2 i = I i := fun i u1 u2 => by rw [e2, sI_n _ _ u2, e1, sI_n _ _ u1]
    have b2 : ∀ j, I2 182 j = if j = p then n else I 182 j := fun j => by rw [e2, sI_n _ _ (by omega), e1, sI_s, upd_at]
    have b3 : ∀ j, I2 183 j = if j = p then 1 else I 183 j := fun j => by rw [e2, sI_s, upd_at, e1, sI_n _ _ (by omega)]
    refine q.don ⟨fun i hi => hI i (by omega) (by omega), fun _ _ => rfl⟩ (h.at hp (fun j hj h20 => ⟨by rw [hI 178 (by omega) (by omega)], by rw [hI 179 (by omega) (by omega)], by rw [hI 181 (by omega) (by omega)], by rw [b2, if_neg hj], by rw [b3, if_neg hj], MEq.of (fun i h1 h2 => hI i (by omega) (by omega)), fun _ _ => rfl⟩) (fun j _ => by rw [hI 177 (by omega) (by omega)]) (hI 218 (by omega) (by omega)) ⟨rfl, rfl, rfl, rfl⟩ ((h.1 p hp).1.kp ⟨by rw [hI 178 (by omega) (by omega)], by rw [hI 179 (by omega) (by omega)], by rw [hI 181 (by omega) (by omega)]⟩ (MEq.of (fun i h1 h2 => hI i (by omega) (by omega))) (fun _ _ => rfl)) ⟨by rw [b3, if_pos rfl], by rw [b2, if_pos rfl]⟩)
  · rw [m_isPlaceB hb, if_pos rfl]
    rw [e] at q
    exact q.ref h
theorem S_raise {x : Int32} {I : MI} {J : MJ} {σ : SG} {Q : Int32 → MI → MJ → Prop} (h : AbsS I J σ) (q : KS I J (opRaise x σ) Q) : f_School_raise x I J Q := by
  unfold f_School_raise
  unfold opRaise at q
  rcases plc_cases x with ⟨p, hp, rfl, e⟩ | ⟨hb, e⟩
  · rw [s_placeFaultN hp, if_pos rfl, nI_clamp (by omega)]
    rw [e] at q
    simp only at q
    refine ⟨(vpN (by omega)).mpr hp, ?_⟩
    have hf := (h.1 p hp).2
    unfold f_School_raise_b23
    rw [nI_clamp (by omega)]
    cases ht : σ.2.1 p with
    | none =>
      rw [ht] at q hf
      rw [show I (1 + 64 + 7 * p) 5 = 0 from hf, if_pos rfl, if_neg (by decide)]
      exact q.ref h
    | some n =>
      rw [ht] at q hf
      simp only at q
      rw [hf.1, if_neg (by decide), if_pos rfl]
      refine ⟨(vpN (by omega)).mpr hp, fun I1 e1 => ⟨(vpN (by omega)).mpr hp, ?_⟩⟩
      have hI : ∀ i, i ≠ 1 + 64 + 7 * p → I1 i = I i := fun i hi => by rw [e1, sI_n _ _ hi]
      have hb : ∀ j, I1 (1 + 64 + 7 * p) j = if j = 5 then 0 else I (1 + 64 + 7 * p) j := fun j => by rw [e1, sI_s, upd_at]
      rw [show I1 (1 + 64 + 7 * p) 6 = n by rw [hb]; exact hf.2]
      refine q.don ⟨fun i hi => hI i (by omega), fun _ _ => rfl⟩ (h.at hp (fun i h1 h2 => hI i (by omega)) (fun _ _ _ => rfl) ((h.1 p hp).1.kp ⟨by rw [hb]; rfl, by rw [hb]; rfl, by rw [hb]; rfl⟩ (fun i h1 h2 => hI i (by omega)) rfl) (show I1 _ 5 = 0 by rw [hb]; rfl))
  · rw [s_placeFaultB hb, if_neg (by decide)]
    rw [e] at q
    unfold f_School_raise_b23
    rw [if_neg (by decide)]
    exact q.ref h
theorem M_raise {x : Int32} {I : MI} {J : MJ} {σ : SG} {Q : Int32 → MI → MJ → Prop} (h : AbsM I J σ) (q : KM I J (opRaise x σ) Q) : f_Model_raise x I J Q := by
  unfold f_Model_raise
  unfold opRaise at q
  rcases plc_cases x with ⟨p, hp, rfl, e⟩ | ⟨hb, e⟩
  · rw [m_isPlaceN hp, if_neg (by decide), nI_clamp (by omega)]
    rw [e] at q
    simp only at q
    refine ⟨(vpN (by omega)).mpr hp, ?_⟩
    have hf := (h.1 p hp).2
    cases ht : σ.2.1 p with
    | none =>
      rw [ht] at q hf
      rw [show I 183 p = 0 from hf, if_pos rfl]
      exact q.ref h
    | some n =>
      rw [ht] at q hf
      simp only at q
      rw [hf.1, if_neg (by decide)]
      refine ⟨(vpN (by omega)).mpr hp, fun I1 e1 => ⟨(vpN (by omega)).mpr hp, ?_⟩⟩
      rw [nar0] at e1
      have hI : ∀ i, i ≠ 183 → I1 i = I i := fun i u1 => by rw [e1, sI_n _ _ u1]
      have b3 : ∀ j, I1 183 j = if j = p then 0 else I 183 j := fun j => by rw [e1, sI_s, upd_at]
      rw [hI 182 (by omega), hf.2]
      refine q.don ⟨fun i hi => hI i (by omega), fun _ _ => rfl⟩ (h.at hp (fun j hj h20 => ⟨by rw [hI 178 (by omega)], by rw [hI 179 (by omega)], by rw [hI 181 (by omega)], by rw [hI 182 (by omega)], by rw [b3, if_neg hj], MEq.of (fun i h1 h2 => hI i (by omega)), fun _ _ => rfl⟩) (fun j _ => by rw [hI 177 (by omega)]) (hI 218 (by omega)) ⟨rfl, rfl, rfl, rfl⟩ ((h.1 p hp).1.kp ⟨by rw [hI 178 (by omega)], by rw [hI 179 (by omega)], by rw [hI 181 (by omega)]⟩ (MEq.of (fun i h1 h2 => hI i (by omega))) (fun _ _ => rfl)) (show I1 183 p = 0 by rw [b3, if_pos rfl]))
  · rw [m_isPlaceB hb, if_pos rfl]
    rw [e] at q
    exact q.ref h
def opSize (x w : Int32) (σ : SG) : Int32 := match plc x with
  | none => -1
  | some p => match σ.1 p with
    | none => -1
    | some (.inl A) => if w = 0 then nI (aN A) else if w = 1 then nI A.2.1 else -1
    | some (.inr t) => if w = 0 then nI t.2.2.1 else if w = 1 then nI t.2.2.2.length else -1
theorem w01 (w : Int32) : w = 0 ∨ w = 1 ∨ w < 0 ∨ (¬ w < 0 ∧ ¬ w ≤ 1 ∧ w ≠ 0 ∧ w ≠ 1) := by
  by_cases h : w < 0
  · exact Or.inr (Or.inr (Or.inl h))
  · by_cases h1 : w ≤ 1
    · obtain ⟨n, h2, h3, rfl⟩ := in_of (x := w) (a := 0) (b := 1) (by decide) (by decide) h (nlt_of_le h1)
      rcases (show n = 0 ∨ n = 1 by omega) with rfl | rfl
      · exact Or.inl rfl
      · exact Or.inr (Or.inl rfl)
    · refine Or.inr (Or.inr (Or.inr ⟨h, h1, fun e => h1 (by rw [e]; decide), fun e => h1 (by rw [e]; decide)⟩))
theorem hasM_l {o k : Nat} {I : MI} {J : MJ} {Q : Int32 → MI → MJ → Prop} (h : I o 0 = nI k) (hk : k ≤ 3) : f_Place_hasMachine o I J Q ↔ Q 1 I J := by
  unfold f_Place_hasMachine
  rw [h, if_neg (nI0_lt (by omega)), if_neg (show ¬ (3 : Int32) < nI k by rw [l3, ltNN (by decide) (by omega)]; omega)]
theorem hasM_r {o k : Nat} {I : MI} {J : MJ} {Q : Int32 → MI → MJ → Prop} (h : I o 0 = nI k) (h1 : 4 ≤ k) (hk : k ≤ 6) : f_Place_hasMachine o I J Q ↔ Q 0 I J := by
  unfold f_Place_hasMachine
  rw [h, if_neg (nI0_lt (by omega)), if_pos (show (3 : Int32) < nI k by rw [l3, ltNN (by decide) (by omega)]; omega)]
theorem S_size {x w : Int32} {I : MI} {J : MJ} {σ : SG} {Q : Int32 → MI → MJ → Prop} (h : AbsS I J σ) (q : Q (opSize x w σ) I J) : f_School_size x w I J Q := by
  unfold f_School_size
  rw [S_thing h]
  unfold opSize at q
  rcases plc_cases x with ⟨p, hp, rfl, e⟩ | ⟨hb, e⟩
  · rw [e] at q
    simp only at q
    have hP := (h.1 p hp).1
    cases ht : σ.1 p with
    | none =>
      rw [ht] at q
      rw [fT_n hp ht, if_neg (by decide)]
      exact q
    | some t =>
      rw [fT_s hp ht, if_pos rfl, nI_clamp (by omega)]
      rw [ht] at q hP
      have hw := w01 w
      cases t with
      | inl A =>
        simp only at q
        obtain ⟨g1, ⟨g2, g3, g4, g5⟩, g6⟩ := hP
        have hk := g6.1
        rcases hw with rfl | rfl | hw | ⟨w1, w2, w3, w4⟩
        · rw [if_neg (by decide), if_pos (by decide)]
          refine ⟨(vpN (by omega)).mpr hp, ?_⟩
          rw [hasM_l g1 hk, if_neg (by decide), if_pos rfl, g3]
          exact q
        · rw [if_neg (by decide), if_pos (by decide)]
          refine ⟨(vpN (by omega)).mpr hp, ?_⟩
          rw [hasM_l g1 hk, if_neg (by decide), if_neg (by decide), g4]
          exact q
        · rw [if_pos hw]
          rw [if_neg (fun e => by rw [e] at hw; exact absurd hw (by decide)), if_neg (fun e => by rw [e] at hw; exact absurd hw (by decide))] at q
          exact q
        · rw [if_neg w1, if_neg w2]
          rw [if_neg w3, if_neg w4] at q
          exact q
      | inr t =>
        simp only at q
        obtain ⟨g1, g2, g3, g4, g5, g6⟩ := hP
        have hk := g3.1
        rcases hw with rfl | rfl | hw | ⟨w1, w2, w3, w4⟩
        · rw [if_neg (by decide), if_pos (by decide)]
          refine ⟨(vpN (by omega)).mpr hp, ?_⟩
          rw [hasM_r g1 (by omega) (by omega), if_pos rfl, if_pos rfl, g4]
          exact q
        · rw [if_neg (by decide), if_pos (by decide)]
          refine ⟨(vpN (by omega)).mpr hp, ?_⟩
          rw [hasM_r g1 (by omega) (by omega), if_pos rfl, if_neg (by decide), g5]
          exact q
        · rw [if_pos hw]
          rw [if_neg (fun e => by rw [e] at hw; exact absurd hw (by decide)), if_neg (fun e => by rw [e] at hw; exact absurd hw (by decide))] at q
          exact q
        · rw [if_neg w1, if_neg w2]
          rw [if_neg w3, if_neg w4] at q
          exact q
  · rw [fT_b hb, if_neg (by decide)]
    rw [e] at q
    exact q
theorem thK_l {A : AM} : thK (some (.inl A)) = nI A.1 := rfl
theorem thK_r {t : TE} : thK (some (.inr t)) = nI (4 + t.1) := rfl
theorem M_size {x w : Int32} {I : MI} {J : MJ} {σ : SG} {Q : Int32 → MI → MJ → Prop} (h : AbsM I J σ) (q : Q (opSize x w σ) I J) : f_Model_size x w I J Q := by
  unfold f_Model_size
  unfold opSize at q
  rcases plc_cases x with ⟨p, hp, rfl, e⟩ | ⟨hb, e⟩
  · rw [e] at q
    simp only at q
    rw [m_isPlaceN hp, if_neg (by decide), nI_clamp (by omega), vpN (by omega), vpN (by omega)]
    refine ⟨hp, ?_⟩
    have hP := (h.1 p hp).1
    have hw := w01 w
    rw [hP.lie]
    cases ht : σ.1 p with
    | none =>
      rw [ht] at q
      rw [if_pos (by decide)]
      exact q
    | some t =>
      rw [ht] at q hP
      cases t with
      | inl A =>
        simp only at q
        obtain ⟨g1, ⟨g2, g3, g4, g5⟩, g6⟩ := hP
        have hk := g6.1
        rw [thK_l]
        rw [if_neg (nI0_lt (by omega))]
        rcases hw with rfl | rfl | hw | ⟨w1, w2, w3, w4⟩
        · rw [if_neg (by decide), if_pos (by decide), if_neg (show ¬ (4 : Int32) ≤ nI A.1 by rw [l4, leNN (by decide) (by omega)]; omega), if_pos rfl, g3]
          exact ⟨hp, by omega, q⟩
        · rw [if_neg (by decide), if_pos (by decide), if_neg (show ¬ (4 : Int32) ≤ nI A.1 by rw [l4, leNN (by decide) (by omega)]; omega), if_neg (by decide), g4]
          exact ⟨hp, by omega, q⟩
        · rw [if_pos hw]
          rw [if_neg (fun e => by rw [e] at hw; exact absurd hw (by decide)), if_neg (fun e => by rw [e] at hw; exact absurd hw (by decide))] at q
          exact q
        · rw [if_neg w1, if_neg w2]
          rw [if_neg w3, if_neg w4] at q
          exact q
      | inr t =>
        simp only at q
        obtain ⟨g1, g2, g3, g4, g5, g6⟩ := hP
        have hk := g3.1
        rw [thK_r]
        rw [if_neg (nI0_lt (by omega))]
        rcases hw with rfl | rfl | hw | ⟨w1, w2, w3, w4⟩
        · rw [if_neg (by decide), if_pos (by decide), if_pos (show (4 : Int32) ≤ nI (4 + t.1) by rw [l4, leNN (by decide) (by omega)]; omega), if_pos rfl, g4]
          exact ⟨hp, hp, q⟩
        · rw [if_neg (by decide), if_pos (by decide), if_pos (show (4 : Int32) ≤ nI (4 + t.1) by rw [l4, leNN (by decide) (by omega)]; omega), if_neg (by decide), g5]
          exact ⟨hp, hp, q⟩
        · rw [if_pos hw]
          rw [if_neg (fun e => by rw [e] at hw; exact absurd hw (by decide)), if_neg (fun e => by rw [e] at hw; exact absurd hw (by decide))] at q
          exact q
        · rw [if_neg w1, if_neg w2]
          rw [if_neg w3, if_neg w4] at q
          exact q
  · rw [m_isPlaceB hb, if_pos rfl]
    rw [e] at q
    exact q
