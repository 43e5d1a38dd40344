/-! the reference lays machines -/
theorem m_become {o x : Nat} {A : AM} {I : MI} {J : MJ} {Q : MI → MJ → Prop} (ho : o < 20) (hx : x < 20) (hd : o ≠ x) (hA : RepM I x A) (hv : VA A) (q : ∀ I', (∀ i, (i < 184 ∨ 190 < i) → I' i = I i) → (∀ q, q < 20 → q ≠ o → MEq I I' q) → RepM I' o A → Q I' J) : f_Model_become (nI o) (nI x) I J Q := by
  unfold f_Model_become
  rw [vpN (by omega), vpN (by omega), nI_clamp (by omega), nI_clamp (by omega)]
  refine ⟨hx, ho, fun I1 e1 => ⟨hx, ho, fun I2 e2 => ⟨hx, ho, fun I3 e3 => ?_⟩⟩⟩
  have k1 : I1 185 x = I 185 x := by rw [e1, sI_n _ _ (by decide)]
  have k2 : I2 186 x = I 186 x := by rw [e2, sI_n _ _ (by decide), e1, sI_n _ _ (by decide)]
  rw [k1] at e2
  rw [k2] at e3
  have f3 : ∀ i, i ≠ 184 → i ≠ 185 → i ≠ 186 → I3 i = I i := fun i a b c => by rw [e3, sI_n _ _ c, e2, sI_n _ _ b, e1, sI_n _ _ a]
  have m4 : ∀ j, I3 184 j = if j = o then I 184 x else I 184 j := fun j => by rw [e3, sI_n _ _ (by decide), e2, sI_n _ _ (by decide), e1, sI_s, upd_at]
  have m5 : ∀ j, I3 185 j = if j = o then I 185 x else I 185 j := fun j => by rw [e3, sI_n _ _ (by decide), e2, sI_s, upd_at, e1, sI_n _ _ (by decide)]
  have m6 : ∀ j, I3 186 j = if j = o then I 186 x else I 186 j := fun j => by rw [e3, sI_s, upd_at, e2, sI_n _ _ (by decide), e1, sI_n _ _ (by decide)]
  refine lp2 (fun f (s : Nat) (I4 : MI) => f_Model_become_L38 (nI o) (nI x) _ f (nI s) I4 J) (fun s I4 => s ≤ 14 ∧ (∀ i, i < 187 ∨ 190 < i → I4 i = I3 i) ∧ (∀ j, I4 187 j = if 14 * o ≤ j ∧ j < 14 * o + s then I 187 (14 * x + (j - 14 * o)) else I 187 j) ∧ (∀ j, I4 188 j = if 14 * o ≤ j ∧ j < 14 * o + s then I 188 (14 * x + (j - 14 * o)) else I 188 j) ∧ (∀ j, I4 189 j = if 56 * o ≤ j ∧ j < 56 * o + 4 * s then I 189 (56 * x + (j - 56 * o)) else I 189 j) ∧ (∀ j, I4 190 j = if 56 * o ≤ j ∧ j < 56 * o + 4 * s then I 190 (56 * x + (j - 56 * o)) else I 190 j)) (fun s _ => 14 - s) ?_ 0 I3 ⟨Nat.zero_le _, fun _ _ => rfl, fun j => by rw [if_neg (by omega), f3 187 (by decide) (by decide) (by decide)], fun j => by rw [if_neg (by omega), f3 188 (by decide) (by decide) (by decide)], fun j => by rw [if_neg (by omega), f3 189 (by decide) (by decide) (by decide)], fun j => by rw [if_neg (by omega), f3 190 (by decide) (by decide) (by decide)]⟩
  rintro f s I4 ⟨b1, b2, b3, b4, b5, b6⟩ ih
  unfold f_Model_become_L38
  by_cases es : s = 14
  · rw [if_pos (show (14 : Int32) ≤ nI s by rw [es]; decide)]
    subst es
    refine q I4 (fun i hi => by rw [b2 i (by omega), f3 i (by omega) (by omega) (by omega)]) (fun q hq hqo => MEq.oth (by rw [b2 184 (by omega), m4, if_neg hqo]) (by rw [b2 185 (by omega), m5, if_neg hqo]) (by rw [b2 186 (by omega), m6, if_neg hqo]) (fun j u v => ⟨by rw [b3, if_neg (by omega)], by rw [b4, if_neg (by omega)]⟩) (fun j u v => ⟨by rw [b5, if_neg (by omega)], by rw [b6, if_neg (by omega)]⟩)) ⟨by rw [b2 184 (by omega), m4, if_pos rfl]; exact hA.1, by rw [b2 185 (by omega), m5, if_pos rfl]; exact hA.2.1, by rw [b2 186 (by omega), m6, if_pos rfl]; exact hA.2.2.1, fun u z hz => ?_⟩
    obtain ⟨r1, r2, r3⟩ := hA.2.2.2 u z hz
    obtain ⟨u14, u4⟩ := hv.row4 hz
    have k7 : I4 187 (14 * o + u) = I 187 (14 * x + u) := by rw [b3, if_pos (by omega), show 14 * x + (14 * o + u - 14 * o) = 14 * x + u by omega]
    have k8 : I4 188 (14 * o + u) = I 188 (14 * x + u) := by rw [b4, if_pos (by omega), show 14 * x + (14 * o + u - 14 * o) = 14 * x + u by omega]
    refine ⟨by rw [k7]; exact r1, fun hn => by rw [k8]; exact r2 hn, fun r hr => ⟨by rw [k8]; exact (r3 r hr).1, fun a y hy => ?_⟩⟩
    have h1 := (List.getElem?_eq_some_iff.mp hy).1
    have h2 := u4 r hr
    rw [b5, b6, if_pos (by omega), if_pos (by omega), show 56 * x + (4 * (14 * o + u) + a - 56 * o) = 4 * (14 * x + u) + a by omega]
    exact (r3 r hr).2 a y hy
  · rw [if_neg (show ¬ (14 : Int32) ≤ nI s by rw [l14, leNN (by decide) (by omega)]; omega), l14, pk_mul, pk_mul, nI_add, nI_add, vpN (by omega), vpN (by omega), nI_clamp (by omega), nI_clamp (by omega)]
    refine ⟨by omega, by omega, fun I5 e5 => ⟨by omega, by omega, fun I6 e6 => ?_⟩⟩
    have k5 : I4 187 (14 * x + s) = I 187 (14 * x + s) := by rw [b3, if_neg (by omega)]
    have k6 : I5 188 (14 * x + s) = I 188 (14 * x + s) := by rw [e5, sI_n _ _ (by decide), b4, if_neg (by omega)]
    rw [k5] at e5
    rw [k6] at e6
    have g7 : ∀ j, I6 187 j = if 14 * o ≤ j ∧ j < 14 * o + (s + 1) then I 187 (14 * x + (j - 14 * o)) else I 187 j := fun j => by
      rw [e6, sI_n _ _ (by decide), e5, sI_s, upd_at, b3]
      (repeat' split) <;> first | rfl | (exfalso; omega) | (congr 1; omega)
    have g8 : ∀ j, I6 188 j = if 14 * o ≤ j ∧ j < 14 * o + (s + 1) then I 188 (14 * x + (j - 14 * o)) else I 188 j := fun j => by
      rw [e6, sI_s, upd_at, e5, sI_n _ _ (by decide), b4]
      (repeat' split) <;> first | rfl | (exfalso; omega) | (congr 1; omega)
    have f6 : ∀ i, i ≠ 187 → i ≠ 188 → I6 i = I4 i := fun i a b => by rw [e6, sI_n _ _ b, e5, sI_n _ _ a]
    refine lp2 (fun f (a : Nat) (I7 : MI) => f_Model_become_L91 (nI o) (nI x) (nI s) _ f (nI a) I7 J) (fun a I7 => a ≤ 4 ∧ (∀ i, i ≠ 189 → i ≠ 190 → I7 i = I6 i) ∧ (∀ j, I7 189 j = if 56 * o ≤ j ∧ j < 56 * o + (4 * s + a) then I 189 (56 * x + (j - 56 * o)) else I 189 j) ∧ (∀ j, I7 190 j = if 56 * o ≤ j ∧ j < 56 * o + (4 * s + a) then I 190 (56 * x + (j - 56 * o)) else I 190 j)) (fun a _ => 4 - a) ?_ 0 I6 ⟨Nat.zero_le _, fun _ _ _ => rfl, fun j => by rw [f6 189 (by decide) (by decide)]; exact b5 j, fun j => by rw [f6 190 (by decide) (by decide)]; exact b6 j⟩
    rintro f2 a I7 ⟨c1, c2, c3, c4⟩ ih2
    unfold f_Model_become_L91
    by_cases ea : a = 4
    · rw [if_pos (show (4 : Int32) ≤ nI a by rw [ea]; decide), nI_1, forall_eq]
      subst ea
      exact ih (s + 1) I7 ⟨by omega, fun i hi => by rw [c2 i (by omega) (by omega), f6 i (by omega) (by omega), b2 i hi], fun j => by rw [c2 187 (by decide) (by decide)]; exact g7 j, fun j => by rw [c2 188 (by decide) (by decide)]; exact g8 j, fun j => by rw [c3 j, show 56 * o + (4 * s + 4) = 56 * o + 4 * (s + 1) by omega], fun j => by rw [c4 j, show 56 * o + (4 * s + 4) = 56 * o + 4 * (s + 1) by omega]⟩ (by omega)
    · rw [if_neg (show ¬ (4 : Int32) ≤ nI a by rw [l4, leNN (by decide) (by omega)]; omega), spotN, spotN, vpN (by omega), vpN (by omega), nI_clamp (by omega), nI_clamp (by omega)]
      refine ⟨by omega, by omega, fun I8 e8 => ?_⟩
      have h8 : I7 189 (4 * (14 * x + s) + a) = I 189 (56 * x + (4 * s + a)) := by rw [c3, if_neg (by omega)]; congr 1; omega
      rw [h8] at e8
      rw [spotN, spotN, vpN (by omega), vpN (by omega), nI_clamp (by omega), nI_clamp (by omega)]
      refine ⟨by omega, by omega, fun I9 e9 t et => ?_⟩
      have h9 : I8 190 (4 * (14 * x + s) + a) = I 190 (56 * x + (4 * s + a)) := by rw [e8, sI_n _ _ (by decide), c4, if_neg (by omega)]; congr 1; omega
      rw [h9] at e9
      rw [et, nI_1 a]
      refine ih2 (a + 1) I9 ⟨by omega, fun i u v => by rw [e9, sI_n _ _ v, e8, sI_n _ _ u, c2 i u v], fun j => ?_, fun j => ?_⟩ (by omega)
      · rw [e9, sI_n _ _ (by decide), e8, sI_s, upd_at, c3]
        (repeat' split) <;> first | rfl | (exfalso; omega) | (congr 1; omega)
      · rw [e9, sI_s, upd_at, e8, sI_n _ _ (by decide), c4]
        (repeat' split) <;> first | rfl | (exfalso; omega) | (congr 1; omega)
theorem m_put {t x : Nat} {B : AM} {I0 I : MI} {J0 J : MJ} {σ : SG} {Q : Int32 → MI → MJ → Prop} (hx : x < 20) (hx16 : 16 ≤ x) (ht : t < 16) (hB : RepM I x B) (hv : VA B) (h : AbsM I J σ) (hf : FrM I0 I J0 J) (q : KM I0 J0 (don (nI (aN B)) (setF (setD σ t (some (.inl B))) t (σ.2.1 t))) Q) : f_Model_put (nI t) (nI x) I J Q := by
  unfold f_Model_put
  refine m_become (by omega) hx (by omega) hB hv (fun I1 e1 e2 r1 => ?_)
  rw [vpN (by omega), vpN (by omega), nI_clamp (by omega), nI_clamp (by omega)]
  have hme := e2 x hx (by omega)
  have k0 : I1 184 x = nI B.1 := by rw [hme.1]; exact hB.1
  rw [k0]
  refine ⟨hx, ht, fun I2 e3 => ⟨ht, fun I3 e4 => ⟨hx, ?_⟩⟩⟩
  have f3 : ∀ i, i ≠ 178 → i ≠ 181 → I3 i = I1 i := fun i a b => by rw [e4, sI_n _ _ b, e3, sI_n _ _ a]
  have k1 : I3 185 x = nI (aN B) := by rw [f3 185 (by decide) (by decide), hme.2.1]; exact hB.2.1
  rw [k1]
  have m8 : ∀ j, I3 178 j = if j = t then nI B.1 else I 178 j := fun j => by rw [e4, sI_n _ _ (by decide), e3, sI_s, upd_at, e1 178 (by omega)]
  have m1 : ∀ j, I3 181 j = if j = t then 0 else I 181 j := fun j => by rw [e4, sI_s, upd_at, e3, sI_n _ _ (by decide), e1 181 (by omega)]
  have me : ∀ q, q < 20 → q ≠ t → MEq I I3 q := fun q hq hqt => (e2 q hq hqt).tr (MEq.of (fun i a b => f3 i (by omega) (by omega)))
  have rk : RepM I3 t B := by
    unfold RepM RowM at *
    rw [f3 184 (by decide) (by decide), f3 185 (by decide) (by decide), f3 186 (by decide) (by decide), f3 187 (by decide) (by decide), f3 188 (by decide) (by decide), f3 189 (by decide) (by decide), f3 190 (by decide) (by decide)]
    exact r1
  refine q.don (hf.tr ⟨fun i hi => by rw [f3 i (by omega) (by omega), e1 i (by omega)], fun _ _ => rfl⟩) (h.at ht (fun q hq h20 => ⟨by rw [m8, if_neg hq], by rw [f3 179 (by decide) (by decide), e1 179 (by omega)], by rw [m1, if_neg hq], by rw [f3 182 (by decide) (by decide), e1 182 (by omega)], by rw [f3 183 (by decide) (by decide), e1 183 (by omega)], me q h20 hq, fun _ _ => rfl⟩) (fun k _ => by rw [f3 177 (by decide) (by decide), e1 177 (by omega)]) (by rw [f3 218 (by decide) (by decide), e1 218 (by omega)]) ⟨rfl, rfl, rfl, rfl⟩ ⟨by rw [m8, if_pos rfl], rk, hv⟩ ((h.1 t ht).2.kp ⟨by rw [f3 183 (by decide) (by decide), e1 183 (by omega)], by rw [f3 182 (by decide) (by decide), e1 182 (by omega)]⟩))
theorem KM.ref' {I0 I : MI} {J0 J : MJ} {σ : SG} {v : Int32} {Q : Int32 → MI → MJ → Prop} (k : KM I0 J0 (-1, fnd σ v) Q) (hf : FrM I0 I J0 J) (h : AbsM I J σ) : f_Model_refuse v I J (fun r I' J' => Q r I' J') := by
  rw [m_refuse]
  exact k _ _ (hf.tr (FrM.fn v)) (h.fn v)
theorem KS.ref' {I0 I : MI} {J0 J : MJ} {σ : SG} {v : Int32} {Q : Int32 → MI → MJ → Prop} (k : KS I0 J0 (-1, fnd σ v) Q) (hf : FrS I0 I J0 J) (h : AbsS I J σ) : f_School_refuse v I J (fun r I' J' => Q r I' J') := by
  rw [s_refuse]
  exact k _ _ (hf.tr (FrS.fn v)) (h.fn v)
theorem M_least {x y : Int32} {I : MI} {J : MJ} {σ : SG} {Q : Int32 → MI → MJ → Prop} (h : AbsM I J σ) (q : KM I J (opLeast x y σ) Q) : f_Model_least x y I J Q := by
  unfold f_Model_least
  rw [M_noM h]
  unfold opLeast at q
  rcases maC_cases σ x with ⟨p, A, hp, rfl, ht, e, e0⟩ | ⟨e, e0⟩
  · rw [e] at q
    simp only at q
    have hP := (h.1 p hp).1
    rw [ht] at hP
    obtain ⟨g1, g2, g3⟩ := hP
    rw [e0, if_pos rfl]
    rcases plc_cases y with ⟨t, ht', rfl, et⟩ | ⟨hb, et⟩
    · rw [et] at q
      simp only at q
      rw [m_isPlaceN ht', if_neg (by decide), l18]
      refine m_least (by omega) (by decide) (by decide) g2 g3 (fun hg I1 J1 s1 _ => ?_) (fun hg I1 J1 s1 _ r1 _ => ?_)
      · rw [if_pos hg] at q
        rw [if_pos rfl]
        exact q.ref' s1.2.2.2.2 (s1.abs h)
      · rw [if_neg hg] at q
        rw [if_neg (by decide)]
        exact m_put (by decide) (by decide) ht' r1 (leastA_VL g3 hg).1 (s1.abs h) s1.2.2.2.2 q
    · rw [et] at q
      rw [m_isPlaceB hb, if_pos rfl]
      exact q.ref h
  · rw [e] at q
    rw [if_neg e0, M_noM h]
    exact q.ref h
theorem M_teacher {x kd y lim : Int32} {I : MI} {J : MJ} {σ : SG} {Q : Int32 → MI → MJ → Prop} (h : AbsM I J σ) (q : KM I J (opTeacher x kd y lim σ) Q) : f_Model_teacher x kd y lim I J Q := by
  unfold f_Model_teacher f_Model_teacher_b40
  unfold opTeacher at q
  rcases plc_cases x with ⟨p, hp, rfl, ep⟩ | ⟨hb, ep⟩
  · rw [ep] at q
    simp only at q
    rw [m_isPlaceN hp, if_neg (by decide), M_noM h]
    rcases maC_cases σ y with ⟨f, A, hf, rfl, ht, e, e0⟩ | ⟨e, e0⟩
    · rw [e] at q
      simp only at q
      have hP := (h.1 f hf).1
      rw [ht] at hP
      obtain ⟨g1, g2, g3⟩ := hP
      rw [e0, if_pos rfl]
      by_cases h1 : kd < 0
      · rw [if_pos h1]
        rw [if_pos (Or.inl h1)] at q
        exact q.ref h
      · rw [if_neg h1]
        by_cases h1' : 2 < kd
        · rw [if_neg (lt_nle_i h1')]
          rw [if_pos (Or.inr h1')] at q
          exact q.ref h
        · rw [if_pos (not_lt_i h1')]
          rw [if_neg (show ¬ (kd < 0 ∨ 2 < kd) from fun hh => hh.elim h1 h1')] at q
          by_cases h2 : lim < 0
          · rw [if_neg (lt_nle_i h2)]
            rw [if_pos h2] at q
            exact q.ref h
          · rw [if_pos (not_lt_i h2)]
            rw [if_neg h2] at q
            by_cases h3 : 30 < lim
            · rw [if_neg (lt_nle_i h3)]
              rw [if_pos h3] at q
              exact q.ref h
            · rw [if_pos (not_lt_i h3), l18]
              rw [if_neg h3] at q
              obtain ⟨k, hk31, rfl⟩ := nI_of h1
              obtain ⟨l, hl31, rfl⟩ := nI_of h2
              have hk2 : k ≤ 2 := by
                by_cases hh : k ≤ 2
                · exact hh
                · exact absurd (show (2 : Int32) < nI k by rw [l2, ltNN (by decide) hk31]; omega) h1'
              have hl30 : l ≤ 30 := by
                by_cases hh : l ≤ 30
                · exact hh
                · exact absurd (show (30 : Int32) < nI l by rw [l30, ltNN (by decide) hl31]; omega) h3
              rw [nI_clamp hk31, nI_clamp hl31] at q
              refine m_least (by omega) (by decide) (by decide) g2 g3 (fun hg I1 J1 s1 _ => ?_) (fun hg I1 J1 s1 _ r1 _ => ?_)
              · rw [if_pos hg] at q
                rw [if_pos rfl]
                exact q.ref' s1.2.2.2.2 (s1.abs h)
              · rw [if_neg hg] at q
                rw [if_neg (by decide)]
                have hA1 := s1.abs h
                have hvl := leastA_VL g3 hg
                refine m_become (by omega) (by decide) (by omega) r1 hvl.1 (fun I2 e2 e3 r2 => ?_)
                rw [vpN (by omega), nI_clamp (by omega), l4, nI_add]
                refine ⟨hp, fun I3 e4 => ?_⟩
                have fin : ∀ (w : Nat), w ≤ 30 → w = (if nI k = 0 then 30 else l) → f_Model_teacher_b118 (nI p) (nI p) (nI w) Q I3 J1 := by
                  intro w hw30 hw
                  unfold f_Model_teacher_b118
                  rw [vpN (by omega), nI_clamp (by omega)]
                  refine ⟨hp, fun I4 e5 => ⟨hp, fun I5 e6 => ?_⟩⟩
                  have f5 : ∀ i, i ≠ 178 → i ≠ 179 → i ≠ 181 → I5 i = I2 i := fun i a b c => by rw [e6, sI_n _ _ c, e5, sI_n _ _ b, e4, sI_n _ _ a]
                  have m8 : ∀ j, I5 178 j = if j = p then nI (4 + k) else I1 178 j := fun j => by rw [e6, sI_n _ _ (by decide), e5, sI_n _ _ (by decide), e4, sI_s, upd_at, e2 178 (by omega)]
                  have m9 : ∀ j, I5 179 j = if j = p then nI w else I1 179 j := fun j => by rw [e6, sI_n _ _ (by decide), e5, sI_s, upd_at, e4, sI_n _ _ (by decide), e2 179 (by omega)]
                  have m1 : ∀ j, I5 181 j = if j = p then 0 else I1 181 j := fun j => by rw [e6, sI_s, upd_at, e5, sI_n _ _ (by decide), e4, sI_n _ _ (by decide), e2 181 (by omega)]
                  have me : ∀ q, q < 20 → q ≠ p → MEq I1 I5 q := fun q hq hqt => (e3 q hq hqt).tr (MEq.of (fun i a b => f5 i (by omega) (by omega) (by omega)))
                  have rk : RepM I5 p (leastA A) := by
                    unfold RepM RowM at *
                    rw [f5 184 (by decide) (by decide) (by decide), f5 185 (by decide) (by decide) (by decide), f5 186 (by decide) (by decide) (by decide), f5 187 (by decide) (by decide) (by decide), f5 188 (by decide) (by decide) (by decide), f5 189 (by decide) (by decide) (by decide), f5 190 (by decide) (by decide) (by decide)]
                    exact r2
                  rw [← hw] at q
                  refine q.don (s1.2.2.2.2.tr ⟨fun i hi => by rw [f5 i (by omega) (by omega) (by omega), e2 i (by omega)], fun _ _ => rfl⟩) (hA1.at hp (fun q hq h20 => ⟨by rw [m8, if_neg hq], by rw [m9, if_neg hq], by rw [m1, if_neg hq], by rw [f5 182 (by decide) (by decide) (by decide), e2 182 (by omega)], by rw [f5 183 (by decide) (by decide) (by decide), e2 183 (by omega)], me q h20 hq, fun _ _ => rfl⟩) (fun k _ => by rw [f5 177 (by decide) (by decide) (by decide), e2 177 (by omega)]) (by rw [f5 218 (by decide) (by decide) (by decide), e2 218 (by omega)]) ⟨rfl, rfl, rfl, rfl⟩ ⟨by rw [m8, if_pos rfl], rk, ⟨hk2, hvl, hw30, Nat.zero_le _, fun _ => rfl⟩, by rw [m9, if_pos rfl], by rw [m1, if_pos rfl]; rfl, (fun i w hw => by simp at hw)⟩ ((hA1.1 p hp).2.kp ⟨by rw [f5 183 (by decide) (by decide) (by decide), e2 183 (by omega)], by rw [f5 182 (by decide) (by decide) (by decide), e2 182 (by omega)]⟩))
                by_cases hk0 : nI k = 0
                · rw [if_pos hk0]
                  exact fin 30 (by decide) (by rw [if_pos hk0])
                · rw [if_neg hk0]
                  exact fin l hl30 (by rw [if_neg hk0])
    · rw [e] at q
      rw [if_neg e0, M_noM h]
      exact q.ref h
  · rw [ep] at q
    rw [m_isPlaceB hb, if_pos rfl]
    exact q.ref h
