/-! a machine is copied -/
theorem cpy0 {f g : Nat → Int32} {n j : Nat} (h : j < n) : va_cpy f g 0 0 n j = f j := by rw [pk_cpy_in (by omega) (by omega), show 0 + (j - 0) = j by omega]
theorem c_become {o x : Nat} {A : AM} {I : MI} {J : MJ} {Q : MI → MJ → Prop} (hd : x + 4 < o ∨ o + 4 < x) (hA : RepC I x A) (hv : VA A) (q : ∀ I', (∀ i, i < o ∨ o + 4 < i → I' i = I i) → (∀ j, 3 ≤ j → I' o j = I o j) → RepC I' o A → Q I' J) : f_Machine_become o x I J Q := by
  unfold f_Machine_become
  rw [forall_eq, forall_eq, forall_eq]
  have z0 : (0 : Int32).toNatClampNeg = 0 := rfl
  have z14 : (14 : Int32).toNatClampNeg = 14 := rfl
  have z56 : (56 : Int32).toNatClampNeg = 56 := rfl
  rw [z0, z14, z56]
  refine ⟨by decide, fun I1 e1 => ⟨by decide, fun I2 e2 => ⟨by decide, fun I3 e3 => ⟨by decide, fun I4 e4 => ?_⟩⟩⟩⟩
  have f0 : ∀ i, i < o ∨ o + 4 < i → I4 i = I i := fun i hi => by rw [e4, sI_n _ _ (by omega), e3, sI_n _ _ (by omega), e2, sI_n _ _ (by omega), e1, sI_n _ _ (by omega), sI_n _ _ (by omega), sI_n _ _ (by omega), sI_n _ _ (by omega)]
  have g0 : ∀ j, I4 o j = upd (upd (upd (I o) 0 (I x 0)) 1 (I x 1)) 2 (I x 2) j := fun j => by
    rw [e4, sI_n _ _ (by omega), e3, sI_n _ _ (by omega), e2, sI_n _ _ (by omega), e1, sI_n _ _ (by omega), sI_s, sI_s, sI_s, sI_n _ _ (by omega), sI_n _ _ (by omega), sI_n _ _ (by omega)]
  have g1 : ∀ j, j < 14 → I4 (o + 1) j = I (x + 1) j := fun j hj => by
    rw [e4, sI_n _ _ (by omega), e3, sI_n _ _ (by omega), e2, sI_n _ _ (by omega), e1, sI_s, cpy0 hj, sI_n _ _ (by omega), sI_n _ _ (by omega), sI_n _ _ (by omega)]
  have h1 : ∀ i, i < o ∨ o + 4 < i → I1 i = I i := fun i hi => by rw [e1, sI_n _ _ (by omega), sI_n _ _ (by omega), sI_n _ _ (by omega), sI_n _ _ (by omega)]
  have g2 : ∀ j, j < 56 → I4 (o + 2) j = I (x + 2) j := fun j hj => by
    rw [e4, sI_n _ _ (by omega), e3, sI_n _ _ (by omega), e2, sI_s, cpy0 hj, h1 _ (by omega)]
  have h2 : ∀ i, i < o ∨ o + 4 < i → I2 i = I i := fun i hi => by rw [e2, sI_n _ _ (by omega), h1 i hi]
  have g3 : ∀ j, j < 56 → I4 (o + 3) j = I (x + 3) j := fun j hj => by
    rw [e4, sI_n _ _ (by omega), e3, sI_s, cpy0 hj, h2 _ (by omega)]
  have h3 : ∀ i, i < o ∨ o + 4 < i → I3 i = I i := fun i hi => by rw [e3, sI_n _ _ (by omega), h2 i hi]
  have g4 : ∀ j, j < 14 → I4 (o + 4) j = I (x + 4) j := fun j hj => by
    rw [e4, sI_s, cpy0 hj, h3 _ (by omega)]
  refine q I4 f0 (fun j hj => by rw [g0, upd_at, if_neg (by omega), upd_at, if_neg (by omega), upd_at, if_neg (by omega)]) ⟨by rw [g0]; exact hA.1, by rw [g0]; exact hA.2.1, by rw [g0]; exact hA.2.2.1, fun s z hz => ?_⟩
  obtain ⟨r1, r2, r3⟩ := hA.2.2.2 s z hz
  obtain ⟨s14, s4⟩ := hv.row4 hz
  refine ⟨by rw [g4 s s14]; exact r1, fun hn => by rw [g1 s s14]; exact r2 hn, fun r hr => ⟨by rw [g1 s s14]; exact (r3 r hr).1, fun a y hy => ?_⟩⟩
  have := (List.getElem?_eq_some_iff.mp hy).1
  have := s4 r hr
  rw [g2 _ (by omega), g3 _ (by omega)]
  exact (r3 r hr).2 a y hy
theorem s_lay {x t : Nat} {B : AM} {I0 I : MI} {J0 J : MJ} {σ : SG} {Q : Int32 → MI → MJ → Prop} (hx : x + 4 < 65) (ht : t < 16) (hB : RepC I x B) (hv : VA B) (h : AbsS I J σ) (hf : FrS I0 I J0 J) (q : KS I0 J0 (don (nI (aN B)) (setF (setD σ t (some (.inl B))) t (σ.2.1 t))) Q) : f_School_layMachine x (nI t) I J Q := by
  unfold f_School_layMachine f_Place_layMachine
  rw [vpN (by omega), nI_clamp (by omega)]
  refine ⟨ht, c_become (by omega) hB hv (fun I1 e1 e2 r1 I2 e3 => ?_)⟩
  have k0 : I1 x 0 = nI B.1 := by rw [e1 x (by omega)]; exact hB.1
  rw [k0] at e3
  have f2 : ∀ i, i ≠ 1 + 64 + 7 * t → I2 i = I1 i := fun i hi => by rw [e3, sI_n _ _ hi]
  have k1 : I2 x 1 = nI (aN B) := by rw [f2 x (by omega), e1 x (by omega)]; exact hB.2.1
  show f_School_done (I2 x 1) I2 J (fun r15 I15 J15 => Q r15 I15 J15)
  rw [k1]
  have hb : ∀ j, j ≠ 0 → I2 (1 + 64 + 7 * t) j = I (1 + 64 + 7 * t) j := fun j hj => by rw [e3, sI_s, pk_un hj, e1 _ (by omega)]
  refine q.don (hf.tr ⟨fun i hi => by rw [f2 i (by omega), e1 i (by omega)], fun _ _ => rfl⟩) (h.at ht (fun i u v => by rw [f2 i (by omega), e1 i (by omega)]) (fun _ _ _ => rfl) ⟨by rw [e3, sI_s, pk_us], r1.kp (fun i u v => f2 i (by omega)), hv⟩ ((h.1 t ht).2.kp ⟨hb 5 (by decide), hb 6 (by decide)⟩))
noncomputable section
def opLeast (x y : Int32) (σ : SG) : Int32 × SG := match maC σ x with
  | none => ref (fMa σ x) σ
  | some A => match plc y with
    | none => ref 2 σ
    | some t => by classical exact if grt A then ref 5 σ else don (nI (aN (leastA A))) (setF (setD σ t (some (.inl (leastA A)))) t (σ.2.1 t))
def opTeacher (x kd y lim : Int32) (σ : SG) : Int32 × SG := match plc x with
  | none => ref 2 σ
  | some p => match maC σ y with
    | none => ref (fMa σ y) σ
    | some A => by classical exact if kd < 0 ∨ 2 < kd then ref 4 σ else if lim < 0 then ref 3 σ else if 30 < lim then ref 2 σ else if grt A then ref 5 σ else don 0 (setF (setD σ p (some (.inr (kd.toNatClampNeg, leastA A, if kd = 0 then 30 else lim.toNatClampNeg, [])))) p (σ.2.1 p))
end
theorem LfS.abs {I I' : MI} {J : MJ} {σ : SG} (h : AbsS I J σ) (e : LfS 60 I I') (hh : HaS I') : AbsS I' J σ := h.scr (fun i hi => e i (by omega) (by omega)) (fun _ _ => rfl) hh
theorem LfS.fr {I I' : MI} {J : MJ} (e : LfS 60 I I') : FrS I I' J J := ⟨fun i hi => e i (by omega) (by omega), fun _ _ => rfl⟩
theorem S_least {x y : Int32} {I : MI} {J : MJ} {σ : SG} {Q : Int32 → MI → MJ → Prop} (h : AbsS I J σ) (q : KS I J (opLeast x y σ) Q) : f_School_least x y I J Q := by
  unfold f_School_least
  rw [S_machF h]
  unfold opLeast at q
  rcases maC_cases σ x with ⟨p, A, hp, rfl, ht, e, e0⟩ | ⟨e, e0⟩
  · rw [e] at q
    simp only at q
    have hP := (h.1 p hp).1
    rw [ht] at hP
    obtain ⟨g1, g2, g3⟩ := hP
    rw [e0, if_pos rfl]
    rcases plc_cases y with ⟨t, ht', rfl, et⟩ | ⟨hb, et⟩
    · rw [et] at q
      simp only at q
      rw [s_placeFaultN ht']
      unfold f_School_least_b15
      rw [if_pos rfl, vpN (by omega), nI_clamp (by omega)]
      refine ⟨hp, c_least (by omega) (by decide) g2 g3 h.2.2.2.2 (fun hg I1 e1 h1 => ?_) (fun hg I1 e1 h1 r1 => ?_)⟩
      · rw [if_pos hg] at q
        rw [if_pos rfl]
        unfold f_School_least_b44
        rw [if_neg (by decide), s_refuse]
        have hA1 : AbsS I1 J σ := h.scr (fun i hi => e1 i (by omega)) (fun _ _ => rfl) h1
        exact q _ _ (FrS.tr ⟨fun i hi => e1 i (by omega), fun _ _ => rfl⟩ (FrS.fn 5)) (hA1.fn 5)
      · rw [if_neg hg] at q
        rw [if_neg (by decide)]
        unfold f_School_least_b44
        rw [if_pos rfl]
        exact s_lay (by decide) ht' r1 (leastA_VL g3 hg).1 (e1.abs h h1) e1.fr q
    · rw [et] at q
      rw [s_placeFaultB hb]
      unfold f_School_least_b15 f_School_least_b44
      rw [if_neg (by decide), if_neg (by decide)]
      exact q.ref h
  · rw [e] at q
    rw [if_neg e0]
    unfold f_School_least_b15 f_School_least_b44
    rw [if_neg e0, if_neg e0]
    exact q.ref h
theorem s_tcF {x kd y lim v : Int32} {I : MI} {J : MJ} {σ : SG} {Q : Int32 → MI → MJ → Prop} (h : AbsS I J σ) (hv : ¬ v = 0) (q : KS I J (ref v σ) Q) : f_School_teacher_b18 x kd y lim v Q I J ∧ f_School_teacher_b31 x kd y lim v Q I J := by
  unfold f_School_teacher_b18 f_School_teacher_b31 f_School_teacher_b62
  rw [if_neg hv, if_neg hv, if_neg hv]
  exact ⟨q.ref h, q.ref h⟩
def fTc (kd lim : Int32) : Int32 := if kd < 0 ∨ 2 < kd then 4 else if lim < 0 then 3 else if 30 < lim then 2 else 0
theorem not_lt_i {x y : Int32} (h : ¬ x < y) : y ≤ x := by
  rw [Int32.lt_iff_toInt_lt] at h
  rw [Int32.le_iff_toInt_le]
  omega
theorem lt_nle_i {x y : Int32} (h : x < y) : ¬ y ≤ x := by
  rw [Int32.lt_iff_toInt_lt] at h
  rw [Int32.le_iff_toInt_le]
  omega
theorem s_tcFa {kd lim : Int32} {I : MI} {J : MJ} {Q : Int32 → MI → MJ → Prop} : f_School_teachingFault kd lim I J Q ↔ Q (fTc kd lim) I J := by
  unfold f_School_teachingFault fTc
  by_cases h1 : kd < 0
  · rw [if_pos h1, if_pos (Or.inl h1)]
  · rw [if_neg h1]
    by_cases h2 : 2 < kd
    · rw [if_neg (lt_nle_i h2), if_pos (Or.inr h2)]
    · rw [if_pos (not_lt_i h2), if_neg (show ¬ (kd < 0 ∨ 2 < kd) from fun hh => hh.elim h1 h2)]
      by_cases h3 : lim < 0
      · rw [if_neg (lt_nle_i h3), if_pos h3]
      · rw [if_pos (not_lt_i h3), if_neg h3]
        by_cases h4 : 30 < lim
        · rw [if_neg (lt_nle_i h4), if_pos h4]
        · rw [if_pos (not_lt_i h4), if_neg h4]
theorem S_teacher {x kd y lim : Int32} {I : MI} {J : MJ} {σ : SG} {Q : Int32 → MI → MJ → Prop} (h : AbsS I J σ) (q : KS I J (opTeacher x kd y lim σ) Q) : f_School_teacher x kd y lim I J Q := by
  unfold f_School_teacher
  unfold opTeacher at q
  rcases plc_cases x with ⟨p, hp, rfl, ep⟩ | ⟨hb, ep⟩
  · rw [ep] at q
    simp only at q
    rw [s_placeFaultN hp, if_pos rfl, S_machF h]
    rcases maC_cases σ y with ⟨f, A, hf, rfl, ht, e, e0⟩ | ⟨e, e0⟩
    · rw [e] at q
      simp only at q
      have hP := (h.1 f hf).1
      rw [ht] at hP
      obtain ⟨g1, g2, g3⟩ := hP
      rw [e0]
      unfold f_School_teacher_b18
      rw [if_pos rfl, s_tcFa]
      by_cases h1 : kd < 0 ∨ 2 < kd
      · rw [if_pos h1] at q
        rw [show fTc kd lim = 4 by unfold fTc; rw [if_pos h1]]
        exact (s_tcF h (by decide) q).2
      · rw [if_neg h1] at q
        by_cases h2 : lim < 0
        · rw [if_pos h2] at q
          rw [show fTc kd lim = 3 by unfold fTc; rw [if_neg h1, if_pos h2]]
          exact (s_tcF h (by decide) q).2
        · rw [if_neg h2] at q
          by_cases h3 : 30 < lim
          · rw [if_pos h3] at q
            rw [show fTc kd lim = 2 by unfold fTc; rw [if_neg h1, if_neg h2, if_pos h3]]
            exact (s_tcF h (by decide) q).2
          · rw [if_neg h3] at q
            rw [show fTc kd lim = 0 by unfold fTc; rw [if_neg h1, if_neg h2, if_neg h3]]
            obtain ⟨k, hk31, rfl⟩ := nI_of (fun hh => h1 (Or.inl hh))
            obtain ⟨l, hl31, rfl⟩ := nI_of h2
            have hk2 : k ≤ 2 := by
              by_cases hh : k ≤ 2
              · exact hh
              · exact absurd (Or.inr (show (2 : Int32) < nI k by rw [l2, ltNN (by decide) hk31]; omega)) h1
            have hl30 : l ≤ 30 := by
              by_cases hh : l ≤ 30
              · exact hh
              · exact absurd (show (30 : Int32) < nI l by rw [l30, ltNN (by decide) hl31]; omega) h3
            rw [nI_clamp hk31, nI_clamp hl31] at q
            unfold f_School_teacher_b31
            rw [if_pos rfl, vpN (by omega), nI_clamp (by omega)]
            refine ⟨hf, c_least (by omega) (by decide) g2 g3 h.2.2.2.2 (fun hg I1 e1 h1 => ?_) (fun hg I1 e1 h1 r1 => ?_)⟩
            · rw [if_pos hg] at q
              rw [if_pos rfl]
              unfold f_School_teacher_b62
              rw [if_neg (by decide), s_refuse]
              have hA1 : AbsS I1 J σ := h.scr (fun i hi => e1 i (by omega)) (fun _ _ => rfl) h1
              exact q _ _ (FrS.tr ⟨fun i hi => e1 i (by omega), fun _ _ => rfl⟩ (FrS.fn 5)) (hA1.fn 5)
            · rw [if_neg hg] at q
              rw [if_neg (by decide)]
              have hA1 := e1.abs h h1
              have hvl := leastA_VL g3 hg
              unfold f_School_teacher_b62 f_Place_layTeacher f_Place_layTeacher_b26
              rw [if_pos rfl, vpN (by omega), nI_clamp (by omega)]
              refine ⟨hp, c_become (by omega) r1 hvl.1 (fun I2 e2 e3 r2 I3 e4 => ?_)⟩
              rw [l4, nI_add] at e4
              have fin : ∀ (w : Nat), w ≤ 30 → w = (if nI k = 0 then 30 else l) → ∀ I26 : MI, I26 = sI I3 (1 + 64 + 7 * p) (upd (I3 (1 + 64 + 7 * p)) 2 (nI w)) → ∀ I31 : MI, I31 = sI I26 (1 + 64 + 7 * p) (upd (I26 (1 + 64 + 7 * p)) 3 0) → f_School_done (0 : Int32) I31 J (fun r92 I92 J92 => Q r92 I92 J92) := by
                intro w hw30 hw I4 e5 I5 e6
                have f5 : ∀ i, i ≠ 1 + 64 + 7 * p → I5 i = I2 i := fun i hi => by rw [e6, sI_n _ _ hi, e5, sI_n _ _ hi, e4, sI_n _ _ hi]
                have b5 : ∀ j, I5 (1 + 64 + 7 * p) j = if j = 3 then 0 else if j = 2 then nI w else if j = 0 then nI (4 + k) else I1 (1 + 64 + 7 * p) j := fun j => by
                  rw [e6, sI_s, upd_at, e5, sI_s, upd_at, e4, sI_s, upd_at, e2 _ (by omega)]
                rw [← hw] at q
                refine q.don (e1.fr.tr ⟨fun i hi => by rw [f5 i (by omega), e2 i (by omega)], fun _ _ => rfl⟩) (hA1.at hp (fun i u v => by rw [f5 i (by omega), e2 i (by omega)]) (fun _ _ _ => rfl) ⟨by rw [b5]; rfl, r2.kp (fun i u v => f5 i (by omega)), ⟨hk2, hvl, hw30, Nat.zero_le _, fun _ => rfl⟩, by rw [b5]; rfl, by rw [b5]; rfl, fun i w hw => by simp at hw⟩ ((hA1.1 p hp).2.kp ⟨by rw [b5]; rfl, by rw [b5]; rfl⟩))
              by_cases hk0 : nI k = 0
              · rw [if_pos hk0]
                exact fin 30 (by decide) (by rw [if_pos hk0])
              · rw [if_neg hk0]
                exact fin l hl30 (by rw [if_neg hk0])
    · rw [e] at q
      exact (s_tcF h e0 q).1
  · rw [ep] at q
    rw [s_placeFaultB hb, if_neg (by decide)]
    exact (s_tcF h (by decide) q).1
