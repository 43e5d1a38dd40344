/-! what the teacher answers, in the reference -/
theorem m_taught_b {S : AM} {v : List Nat} {fr : Nat} {t : Nat × Nat} {I : MI} {J : MJ} {Q : Int32 → MI → MJ → Prop} (hA : RepM I 16 S) (hv : VA S) (hw : wOk v) (hf : fr ≤ v.length) (ht : t.1 < aN S) (ht2 : t.2 < 4) (hat : atC I t) (q : ∀ I', Sc I I' → Q (nI (ansF S t (v.drop fr))) I' J) : f_Model_taught_b37 (lN (num v)) (nI fr) Q I J := by
  unfold f_Model_taught_b37 f_Model_taught_b42 f_Model_taught_b71
  rw [if_neg (by decide), l16]
  refine m_len hw ?_
  have hd : (v.take v.length).drop fr = v.drop fr := by simp
  refine m_goAll (by decide) hA hv ht ht2 hw hf (Nat.le_refl _) hat (fun hn I1 e1 => ?_) (fun z hz I1 e1 a1 => ?_)
  · rw [hd] at hn
    rw [if_pos rfl]
    unfold f_Model_taught_b72
    rw [if_pos rfl]
    have := q I1 e1
    unfold ansF at this
    rw [hn] at this
    exact this
  · rw [hd] at hz
    rw [if_neg (by decide)]
    unfold f_Model_taught_b72
    obtain ⟨z1, z2⟩ := run_ok hv _ t z ht ht2 hz
    have h14 := hv.2.2.2.2.1
    obtain ⟨y, hy⟩ := VA.get z1
    rw [if_neg (by decide), a1.1, show (224 : Int32) = nI 224 from rfl, nI_add, vpN (by omega), nI_clamp (by omega), show 224 + z.1 = 14 * 16 + z.1 from rfl, ((e1.rep hA).2.2.2 _ y hy).1]
    refine ⟨by omega, ?_⟩
    have := q I1 e1
    unfold ansF at this
    rw [hz] at this
    simp only [anS_of hy] at this
    exact this
theorem m_taught_n {S : AM} {v : Int64} {x6 : Int32} {I : MI} {J : MJ} {Q : Int32 → MI → MJ → Prop} (q : Q 8 I J) : f_Model_taught_b41 v x6 Q I J := by
  unfold f_Model_taught_b41 f_Model_taught_b42 f_Model_taught_b71 f_Model_taught_b72
  rw [if_pos rfl, if_pos rfl]
  exact q
theorem m_taught {S : AM} {u v ax : List Nat} {x : Int32} {fr : Nat} {I : MI} {J : MJ} {Q : Int32 → MI → MJ → Prop} (hA : RepM I 16 S) (hv : VA S) (hu : wOk u) (hw : wOk v) (hf : fr ≤ v.length) (hx : (x < 0 ∧ ax = []) ∨ ∃ a, a < 4 ∧ x = nI a ∧ ax = [a]) (q : ∀ I', Sc I I' → Q (nI (ansF S (0, 0) (u ++ ax ++ v.drop fr))) I' J) : f_Model_taught (lN (num u)) x (lN (num v)) (nI fr) I J Q := by
  unfold f_Model_taught
  refine m_begin (fun I1 e1 a1 => m_len hu ?_)
  rw [l16, l0]
  have hd : (u.take u.length).drop 0 = u := by simp
  refine m_goAll (by decide) (e1.rep hA) hv hv.n1 (show (0, 0).2 < 4 by decide) hu (Nat.zero_le _) (Nat.le_refl _) a1 (fun hn I2 e2 => ?_) (fun t ht I2 e2 a2 => ?_)
  · rw [hd] at hn
    rw [if_pos (show (0 : Int32) = nI 0 from rfl)]
    have := q I2 (e1.tr e2)
    rw [List.append_assoc, ans_none hn] at this
    exact m_taught_n (S := S) this
  · rw [hd] at ht
    rw [if_neg (show ¬ (1 : Int32) = nI 0 by decide)]
    have e12 := e1.tr e2
    obtain ⟨t1, t2⟩ := run_ok hv _ (0, 0) t hv.n1 (by decide) ht
    rcases hx with ⟨hx, rfl⟩ | ⟨a, ha, rfl, rfl⟩
    · rw [if_pos (show x < nI 0 from hx)]
      refine m_taught_b (e12.rep hA) hv hw hf t1 t2 a2 (fun I3 e3 => ?_)
      have := q I3 (e12.tr e3)
      rw [List.append_nil, ans_app ht] at this
      exact this
    · rw [if_neg (show ¬ nI a < nI 0 from nI0_lt (by omega))]
      refine m_go (by decide) (e12.rep hA) hv t1 t2 ha a2 (fun hn => ?_) (fun y hy I3 e3 a3 => ?_)
      · rw [if_pos (show (0 : Int32) = nI 0 from rfl)]
        have := q I2 e12
        rw [ans_none (show run S (0, 0) (u ++ [a]) = none by rw [run_app, ht]; show run S t [a] = none; rw [run_cons, hn]; rfl)] at this
        exact m_taught_n (S := S) this
      · rw [if_neg (show ¬ (1 : Int32) = nI 0 by decide)]
        obtain ⟨y1, y2, y3⟩ := dl_ok hv t2 hy
        refine m_taught_b ((e12.tr e3).rep hA) hv hw hf y1 y2 a3 (fun I4 e4 => ?_)
        have := q I4 ((e12.tr e3).tr e4)
        rw [ans_app (show run S (0, 0) (u ++ [a]) = some y by rw [run_app, ht]; show run S t [a] = some y; rw [run_cons, hy]; rfl)] at this
        exact this
theorem wOk_nil : wOk [] := ⟨by decide, fun a ha => by cases ha⟩
/-! cell -/
def opCell (x a y : Int32) (σ : SG) : Int32 := match σ.2.2.2.1 with
  | none => -1
  | some P => match idx P.2.2.1.length x with
    | none => -1
    | some i => match idx P.2.2.2.1.length y with
      | none => -1
      | some j => if a = -1 then nI (ansF P.1 (0, 0) (P.2.2.1.getD i [] ++ P.2.2.2.1.getD j [])) else match idx P.1.2.1 a with
        | none => -1
        | some b => nI (ansF P.1 (0, 0) (P.2.2.1.getD i [] ++ [b] ++ P.2.2.2.1.getD j []))
theorem lt_m1_0 {a : Int32} (h : a < -1) : a < 0 := by
  rw [Int32.lt_iff_toInt_lt] at *
  have : (-1 : Int32).toInt = -1 := by decide
  have : (0 : Int32).toInt = 0 := by decide
  omega
theorem m1_ge {a : Int32} (h : ¬ a < -1) (h' : a ≠ -1) : ¬ a < 0 := by
  intro hh
  rw [Int32.lt_iff_toInt_lt] at *
  have e1 : (-1 : Int32).toInt = -1 := by decide
  have : (0 : Int32).toInt = 0 := by decide
  refine h' (Int32.toInt_inj.mp ?_)
  omega
theorem ans_end {S : AM} (hS : VL S) {w : List Nat} (h : (run S (0, 0) w).isSome) (v : List Nat) : ansF S (0, 0) (w ++ v) = ansF S (endS S w, 0) v := ans_app (end_run hS h).1 v
theorem S_cell {x a y : Int32} {I : MI} {J : MJ} {σ : SG} {Q : Int32 → MI → MJ → Prop} (h : AbsS I J σ) (q : Q (opCell x a y σ) I J) : f_School_cell x a y I J Q := by
  unfold f_School_cell f_Pupil_cellOf f_Pupil_cellOf_b70
  unfold opCell at q
  have hp := h.2.2.1
  cases hP : σ.2.2.2.1 with
  | none =>
    rw [hP] at hp q
    obtain ⟨-, p2, -⟩ := hp
    rw [p2]
    by_cases h0 : x < 0
    · rw [if_pos h0]; exact q
    · rw [if_neg h0, if_pos (nlt0_le h0)]; exact q
  | some P =>
    rw [hP] at hp q
    obtain ⟨p1, p2, p3, p4, p5, p6, p7, p8, p9, p10, p11⟩ := hp
    obtain ⟨v1, v2, v3, v4, v5, v6, v7, v8, v9, v10⟩ := id p11
    rw [p3, p4, p7.2.2.1]
    simp only at q
    rcases idx_cases (N := P.2.2.1.length) (by omega) x with ⟨i, hi, rfl, ei⟩ | ⟨hb, ei⟩
    · rw [ei] at q
      have hw := List.getElem?_eq_getElem hi
      generalize P.2.2.1[i] = w at hw
      have hwr := (v7 w (List.mem_of_getElem? hw)).2
      rw [if_neg (nI0_lt (by omega)), if_neg (by rw [leNN (by omega) (by omega)]; omega)]
      simp only [List.getD, hw, Option.getD_some] at q
      rcases idx_cases (N := P.2.2.2.1.length) (by omega) y with ⟨j, hj, rfl, ej⟩ | ⟨hb, ej⟩
      · rw [ej] at q
        have hv := List.getElem?_eq_getElem hj
        generalize P.2.2.2.1[j] = v at hv
        simp only [hv, Option.getD_some] at q
        have hk4 := v1.1.2.2.1
        have h14 := v1.1.2.2.2.2.1
        have he := end_run v1 hwr
        rw [if_neg (nI0_lt (by omega)), if_neg (by rw [leNN (by omega) (by omega)]; omega), vpN (by omega), nI_clamp (by omega), (p9 i w hw).2]
        by_cases a1 : a = -1
        · rw [if_pos a1] at q
          rw [if_neg (by rw [a1]; decide), if_pos (by rw [a1]; exact m1_lt (by omega)), if_pos a1, if_neg (lm1 (by omega)), show (14 : Int32) = nI 14 from rfl, pk_mul, nI_add, vpN (by omega), nI_clamp (by omega), (p10 j v hv).2 _ he.2]
          rw [ans_end v1 hwr] at q
          exact ⟨by omega, by omega, q⟩
        · rw [if_neg a1] at q
          rcases idx_cases (N := P.1.2.1) (by omega) a with ⟨b, hb, rfl, eb⟩ | ⟨hb, eb⟩
          · rw [eb] at q
            simp only at q
            rw [if_neg (nlt_m1 (by omega)), if_pos (by rw [ltNN (by omega) (by omega)]; exact hb), if_neg (lm1 (by omega)), s_lead p7 v1.1 (by omega) (by omega)]
            refine ⟨by omega, ?_⟩
            have hs := run_snoc v1 hwr b
            cases hl : ld P.1 (endS P.1 w) b with
            | none =>
              rw [hl] at hs
              rw [ans_none hs] at q
              rw [if_pos (show enO none = -1 from rfl)]
              exact q
            | some t =>
              have ht := (ld_lt v1.1 hl).1
              rw [hl] at hs
              rw [ans_app hs] at q
              rw [if_neg (enO_nn (by omega)), show enO (some t) = nI t from rfl, show (14 : Int32) = nI 14 from rfl, pk_mul, nI_add, vpN (by omega), nI_clamp (by omega), (p10 j v hv).2 _ ht]
              exact ⟨by omega, q⟩
          · rw [eb] at q
            by_cases c : a < -1
            · rw [if_pos c]; exact q
            · have h0 := m1_ge c a1
              rw [if_neg c, if_neg (nlt_of_le (hb.elim (fun z => absurd z h0) (fun z => z)))]; exact q
      · rw [ej] at q
        by_cases h0 : y < 0
        · rw [if_pos h0]; exact q
        · rw [if_neg h0, if_pos (hb.elim (fun z => absurd z h0) (fun z => z))]; exact q
    · rw [ei] at q
      by_cases h0 : x < 0
      · rw [if_pos h0]; exact q
      · rw [if_neg h0, if_pos (hb.elim (fun z => absurd z h0) (fun z => z))]; exact q
theorem M_cell {x a y : Int32} {I : MI} {J : MJ} {σ : SG} {Q : Int32 → MI → MJ → Prop} (h : AbsM I J σ) (q : ∀ I', Sc I I' → Q (opCell x a y σ) I' J) : f_Model_cell x a y I J Q := by
  unfold f_Model_cell
  unfold opCell at q
  have q0 := q I Sc.rf
  have hp := h.2.2.1
  cases hP : σ.2.2.2.1 with
  | none =>
    rw [hP] at hp q0
    rw [if_pos (show I 177 49 = 0 from hp)]
    exact q0
  | some P =>
    rw [hP] at hp q0
    simp only [hP] at q
    obtain ⟨p1, p2, p3, p4, p5, p6, p7, p8, p9, p10, p11⟩ := hp
    obtain ⟨v1, v2, v3, v4, v5, v6, v7, v8, v9, v10⟩ := id p11
    rw [if_neg (by rw [p1]; decide), p3, p4]
    simp only at q0
    rcases idx_cases (N := P.2.2.1.length) (by omega) x with ⟨i, hi, rfl, ei⟩ | ⟨hb, ei⟩
    · rw [ei] at q0
      simp only [ei] at q
      have hw := List.getElem?_eq_getElem hi
      generalize P.2.2.1[i] = w at hw
      have hwo := (v7 w (List.mem_of_getElem? hw)).1
      rw [if_neg (nI0_lt (by omega)), if_neg (by rw [leNN (by omega) (by omega)]; omega)]
      simp only [List.getD, hw, Option.getD_some] at q q0
      rcases idx_cases (N := P.2.2.2.1.length) (by omega) y with ⟨j, hj, rfl, ej⟩ | ⟨hb, ej⟩
      · rw [ej] at q0
        simp only [ej] at q
        have hv := List.getElem?_eq_getElem hj
        generalize P.2.2.2.1[j] = v at hv
        have hvo := v8.1 v (List.mem_of_getElem? hv)
        simp only [hv, Option.getD_some] at q q0
        have hk4 := v1.1.2.2.1
        rw [if_neg (nI0_lt (by omega)), if_neg (by rw [leNN (by omega) (by omega)]; omega), show I 186 (16 : Int32).toNatClampNeg = nI P.1.2.1 from p7.2.2.1]
        have v16 : vp_in 16 20 := (vpN (n := 16) (by decide)).mpr (by decide)
        by_cases a1 : a = -1
        · simp only [if_pos a1] at q
          rw [if_neg (by rw [a1]; decide), if_pos (by rw [a1]; exact m1_lt (by omega)), vpN (by omega), vpN (by omega), nI_clamp (by omega), nI_clamp (by omega), p9 i w hw, p10 j v hv]
          refine ⟨v16, by omega, by omega, m_taught (fr := 0) (ax := []) p7 v1.1 hwo hvo (Nat.zero_le _) (Or.inl ⟨by rw [a1]; decide, rfl⟩) (fun I1 e1 => ?_)⟩
          have := q I1 e1
          rw [List.append_nil]
          exact this
        · simp only [if_neg a1] at q
          rw [if_neg a1] at q0
          rcases idx_cases (N := P.1.2.1) (by omega) a with ⟨b, hb, rfl, eb⟩ | ⟨hb, eb⟩
          · simp only [eb] at q
            rw [if_neg (nlt_m1 (by omega)), if_pos (by rw [ltNN (by omega) (by omega)]; exact hb), vpN (by omega), vpN (by omega), nI_clamp (by omega), nI_clamp (by omega), p9 i w hw, p10 j v hv]
            exact ⟨v16, by omega, by omega, m_taught (fr := 0) (ax := [b]) p7 v1.1 hwo hvo (Nat.zero_le _) (Or.inr ⟨b, by omega, rfl, rfl⟩) (fun I1 e1 => q I1 e1)⟩
          · rw [eb] at q0
            by_cases c : a < -1
            · rw [if_pos c]; exact q0
            · have h0 := m1_ge c a1
              rw [if_neg c, if_neg (nlt_of_le (hb.elim (fun z => absurd z h0) (fun z => z)))]; exact ⟨v16, q0⟩
      · rw [ej] at q0
        by_cases h0 : y < 0
        · rw [if_pos h0]; exact q0
        · rw [if_neg h0, if_pos (hb.elim (fun z => absurd z h0) (fun z => z))]; exact q0
    · rw [ei] at q0
      by_cases h0 : x < 0
      · rw [if_pos h0]; exact q0
      · rw [if_neg h0, if_pos (hb.elim (fun z => absurd z h0) (fun z => z))]; exact q0
