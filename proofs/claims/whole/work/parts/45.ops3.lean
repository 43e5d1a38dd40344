/-- the reference's clearing of machine m -/
theorem spotN {x y z : Nat} {I : MI} {J : MJ} {Q : Int32 → MI → MJ → Prop} : f_Model_spot (nI x) (nI y) (nI z) I J Q ↔ Q (nI (4 * (14 * x + y) + z)) I J := by
  unfold f_Model_spot
  rw [l4, l14, pk_mul, nI_add, pk_mul, nI_add]
theorem clear62 {m s : Nat} {I : MI} {J : MJ} {K : MI → MJ → Prop} (hm : m < 20) (hs : s < 14) (k : ∀ I' : MI, (∀ i, i ≠ 189 → i ≠ 190 → I' i = I i) → (∀ j, I' 189 j = if 4 * (14 * m + s) ≤ j ∧ j < 4 * (14 * m + s) + 4 then 0 else I 189 j) → (∀ j, I' 190 j = if 4 * (14 * m + s) ≤ j ∧ j < 4 * (14 * m + s) + 4 then 0 else I 190 j) → K I' J) : f_Model_clear_L62 (nI m) (nI s) K 5 0 I J := by
  have key : ∀ (r a : Nat) (I1 : MI), a + r = 4 → (∀ i, i ≠ 189 → i ≠ 190 → I1 i = I i) → (∀ j, I1 189 j = if 4 * (14 * m + s) ≤ j ∧ j < 4 * (14 * m + s) + a then 0 else I 189 j) → (∀ j, I1 190 j = if 4 * (14 * m + s) ≤ j ∧ j < 4 * (14 * m + s) + a then 0 else I 190 j) → f_Model_clear_L62 (nI m) (nI s) K (r + 1) (nI a) I1 J := by
    intro r
    induction r with
    | zero =>
      intro a I1 ha h1 h2 h3
      have : a = 4 := by omega
      subst this
      unfold f_Model_clear_L62
      rw [if_pos (by decide)]
      exact k I1 h1 h2 h3
    | succ r ih =>
      intro a I1 ha h1 h2 h3
      unfold f_Model_clear_L62
      rw [if_neg (show ¬ (4 : Int32) ≤ nI a from nI_ge (b := 4) (by omega) (by decide)), spotN]
      refine ⟨(vpN (by omega)).mpr (by omega), fun I2 e2 => ?_⟩
      rw [spotN]
      refine ⟨(vpN (by omega)).mpr (by omega), fun I3 e3 t et => ?_⟩
      rw [et, nI_1]
      rw [nI_clamp (by omega)] at e2 e3
      refine ih (a + 1) I3 (by omega) (fun i u1 u2 => by rw [e3, sI_n _ _ u2, e2, sI_n _ _ u1, h1 i u1 u2]) (fun j => ?_) (fun j => ?_)
      · rw [e3, sI_n _ _ (by omega), e2, sI_s, upd_at, h2 j]
        by_cases c1 : j = 4 * (14 * m + s) + a
        · rw [if_pos c1, if_pos (by omega)]
        · rw [if_neg c1]
          by_cases c2 : 4 * (14 * m + s) ≤ j ∧ j < 4 * (14 * m + s) + a
          · rw [if_pos c2, if_pos (by omega)]
          · rw [if_neg c2, if_neg (by omega)]
      · rw [e3, sI_s, upd_at, e2, sI_n _ _ (by omega), h3 j]
        by_cases c1 : j = 4 * (14 * m + s) + a
        · rw [if_pos c1, if_pos (by omega)]
        · rw [if_neg c1]
          by_cases c2 : 4 * (14 * m + s) ≤ j ∧ j < 4 * (14 * m + s) + a
          · rw [if_pos c2, if_pos (by omega)]
          · rw [if_neg c2, if_neg (by omega)]
  exact key 4 0 I (by omega) (fun _ _ _ => rfl) (fun j => by rw [if_neg (by omega)]) (fun j => by rw [if_neg (by omega)])
theorem clearK {m kd n k : Nat} {I : MI} {J : MJ} {Q : MI → MJ → Prop} (hm : m < 20) (q : ∀ I' : MI, (∀ i, (i < 184 ∨ 190 < i) → I' i = I i) → (I' 184 m = nI kd ∧ I' 185 m = nI n ∧ I' 186 m = nI k) → (∀ j, j ≠ m → I' 184 j = I 184 j ∧ I' 185 j = I 185 j ∧ I' 186 j = I 186 j) → (∀ j, I' 187 j = if 14 * m ≤ j ∧ j < 14 * m + 14 then 0 else I 187 j) → (∀ j, I' 188 j = if 14 * m ≤ j ∧ j < 14 * m + 14 then nI k else I 188 j) → (∀ j, I' 189 j = if 56 * m ≤ j ∧ j < 56 * m + 56 then 0 else I 189 j) → (∀ j, I' 190 j = if 56 * m ≤ j ∧ j < 56 * m + 56 then 0 else I 190 j) → Q I' J) : f_Model_clear (nI m) (nI kd) (nI n) (nI k) I J Q := by
  unfold f_Model_clear
  rw [nI_clamp (by omega)]
  refine ⟨(vpN (by omega)).mpr hm, fun I1 e1 => ⟨(vpN (by omega)).mpr hm, fun I2 e2 => ⟨(vpN (by omega)).mpr hm, fun I3 e3 => ⟨15, ?_⟩⟩⟩⟩
  have key : ∀ (r s : Nat) (I4 : MI), s + r = 14 → (∀ i, i ≠ 187 → i ≠ 188 → i ≠ 189 → i ≠ 190 → I4 i = I3 i) → (∀ j, I4 187 j = if 14 * m ≤ j ∧ j < 14 * m + s then 0 else I 187 j) → (∀ j, I4 188 j = if 14 * m ≤ j ∧ j < 14 * m + s then nI k else I 188 j) → (∀ j, I4 189 j = if 56 * m ≤ j ∧ j < 56 * m + 4 * s then 0 else I 189 j) → (∀ j, I4 190 j = if 56 * m ≤ j ∧ j < 56 * m + 4 * s then 0 else I 190 j) → f_Model_clear_L25 (nI m) (nI k) (fun I J => Q I J) (r + 1) (nI s) I4 J := by
    intro r
    induction r with
    | zero =>
      intro s I4 hs h1 h2 h3 h4 h5
      have : s = 14 := by omega
      subst this
      unfold f_Model_clear_L25
      rw [if_pos (by decide)]
      refine q I4 (fun i hi => ?_) ⟨?_, ?_, ?_⟩ (fun j hj => ⟨?_, ?_, ?_⟩) h2 h3 h4 h5
      · rw [h1 i (by omega) (by omega) (by omega) (by omega), e3, sI_n _ _ (by omega), e2, sI_n _ _ (by omega), e1, sI_n _ _ (by omega)]
      · rw [h1 184 (by omega) (by omega) (by omega) (by omega), e3, sI_n _ _ (by omega), e2, sI_n _ _ (by omega), e1, sI_s]; simp [upd]
      · rw [h1 185 (by omega) (by omega) (by omega) (by omega), e3, sI_n _ _ (by omega), e2, sI_s]; simp [upd]
      · rw [h1 186 (by omega) (by omega) (by omega) (by omega), e3, sI_s]; simp [upd]
      · rw [h1 184 (by omega) (by omega) (by omega) (by omega), e3, sI_n _ _ (by omega), e2, sI_n _ _ (by omega), e1, sI_s]; simp [upd, hj]
      · rw [h1 185 (by omega) (by omega) (by omega) (by omega), e3, sI_n _ _ (by omega), e2, sI_s, e1, sI_n _ _ (by omega)]; simp [upd, hj]
      · rw [h1 186 (by omega) (by omega) (by omega) (by omega), e3, sI_s, e2, sI_n _ _ (by omega), e1, sI_n _ _ (by omega)]; simp [upd, hj]
    | succ r ih =>
      intro s I4 hs h1 h2 h3 h4 h5
      unfold f_Model_clear_L25
      rw [if_neg (show ¬ (14 : Int32) ≤ nI s from nI_ge (b := 14) (by omega) (by decide)), l14, pk_mul, nI_add, nI_clamp (by omega)]
      refine ⟨(vpN (by omega)).mpr (by omega), fun I5 e5 => ⟨(vpN (by omega)).mpr (by omega), fun I6 e6 => ⟨5, clear62 hm (by omega) (fun I7 g1 g2 g3 t et => ?_)⟩⟩⟩
      rw [et, nI_1]
      refine ih (s + 1) I7 (by omega) (fun i u1 u2 u3 u4 => by rw [g1 i u3 u4, e6, sI_n _ _ u2, e5, sI_n _ _ u1, h1 i u1 u2 u3 u4]) (fun j => ?_) (fun j => ?_) (fun j => ?_) (fun j => ?_)
      · rw [g1 187 (by omega) (by omega), e6, sI_n _ _ (by omega), e5, sI_s, upd_at, h2 j]
        by_cases c1 : j = 14 * m + s
        · rw [if_pos c1, if_pos (by omega)]
        · rw [if_neg c1]
          by_cases c2 : 14 * m ≤ j ∧ j < 14 * m + s
          · rw [if_pos c2, if_pos (by omega)]
          · rw [if_neg c2, if_neg (by omega)]
      · rw [g1 188 (by omega) (by omega), e6, sI_s, upd_at, e5, sI_n _ _ (by omega), h3 j]
        by_cases c1 : j = 14 * m + s
        · rw [if_pos c1, if_pos (by omega)]
        · rw [if_neg c1]
          by_cases c2 : 14 * m ≤ j ∧ j < 14 * m + s
          · rw [if_pos c2, if_pos (by omega)]
          · rw [if_neg c2, if_neg (by omega)]
      · rw [g2, e6, sI_n _ _ (by omega), e5, sI_n _ _ (by omega), h4 j]
        by_cases c1 : 4 * (14 * m + s) ≤ j ∧ j < 4 * (14 * m + s) + 4
        · rw [if_pos c1, if_pos (by omega)]
        · rw [if_neg c1]
          by_cases c2 : 56 * m ≤ j ∧ j < 56 * m + 4 * s
          · rw [if_pos c2, if_pos (by omega)]
          · rw [if_neg c2, if_neg (by omega)]
      · rw [g3, e6, sI_n _ _ (by omega), e5, sI_n _ _ (by omega), h5 j]
        by_cases c1 : 4 * (14 * m + s) ≤ j ∧ j < 4 * (14 * m + s) + 4
        · rw [if_pos c1, if_pos (by omega)]
        · rw [if_neg c1]
          by_cases c2 : 56 * m ≤ j ∧ j < 56 * m + 4 * s
          · rw [if_pos c2, if_pos (by omega)]
          · rw [if_neg c2, if_neg (by omega)]
  have e0 : ∀ i, i ≠ 184 → i ≠ 185 → i ≠ 186 → I3 i = I i := fun i u1 u2 u3 => by rw [e3, sI_n _ _ u3, e2, sI_n _ _ u2, e1, sI_n _ _ u1]
  refine key 14 0 I3 (by omega) (fun _ _ _ _ _ => rfl) (fun j => ?_) (fun j => ?_) (fun j => ?_) (fun j => ?_) <;> rw [if_neg (by omega), e0 _ (by omega) (by omega) (by omega)]
/-- a cleared machine, as a new one -/
theorem clear_rep {m kd n k : Nat} {I' : MI} (hn : n ≤ 14) (hk : k ≤ 4) (h0 : I' 184 m = nI kd ∧ I' 185 m = nI n ∧ I' 186 m = nI k) (h2 : ∀ s, s < 14 → I' 187 (14 * m + s) = 0 ∧ I' 188 (14 * m + s) = nI k) (h3 : ∀ s a, s < 14 → a < 4 → I' 189 (4 * (14 * m + s) + a) = 0 ∧ I' 190 (4 * (14 * m + s) + a) = 0) : RepM I' m (newA kd n k) := by
  refine ⟨h0.1, by rw [newA_n]; exact h0.2.1, h0.2.2, fun s x hx => ?_⟩
  have hs : s < n := by have := (List.getElem?_eq_some_iff.mp hx).1; simpa [newA] using this
  have : x = (some (List.replicate k (some 0, 0)), 0) := (List.mem_replicate.mp (List.mem_of_getElem? hx)).2
  subst this
  refine ⟨(h2 s (by omega)).1, (fun h => by cases h), fun r hr => ?_⟩
  cases hr
  refine ⟨by rw [(h2 s (by omega)).2]; simp, fun a x hx2 => ?_⟩
  have ha : a < k := by have := (List.getElem?_eq_some_iff.mp hx2).1; simpa using this
  have : x = (some 0, 0) := (List.mem_replicate.mp (List.mem_of_getElem? hx2)).2
  subst this
  exact ⟨(h3 s a (by omega) (by omega)).1, fun _ => (h3 s a (by omega) (by omega)).2⟩
theorem M_machine {x kd n k : Int32} {I : MI} {J : MJ} {σ : SG} {Q : Int32 → MI → MJ → Prop} (h : AbsM I J σ) (q : KM I J (opMachine x kd n k σ) Q) : f_Model_machine x kd n k I J Q := by
  unfold f_Model_machine
  unfold opMachine at q
  rcases plc_cases x with ⟨p, hp, rfl, e⟩ | ⟨hb, e⟩
  · rw [m_isPlaceN hp, if_neg (by decide)]
    rw [e] at q
    simp only at q
    unfold f_Model_machine_b22 f_Model_machine_b37 f_Model_machine_b66
    by_cases h1 : kd < 0 ∨ 3 < kd
    · rw [if_pos h1] at q
      by_cases h2 : kd < 0
      · rw [if_pos h2]; exact q.ref h
      · have h3 : 3 < kd := by rcases h1 with h1 | h1; exact absurd h1 h2; exact h1
        rw [if_neg h2, if_neg (fun z => nlt_of_le z h3)]; exact q.ref h
    · rw [if_neg h1] at q
      have h2 : ¬ kd < 0 := fun z => h1 (Or.inl z)
      have h3 : ¬ 3 < kd := fun z => h1 (Or.inr z)
      rw [if_neg h2, if_pos (not_lt_le h3)]
      by_cases h4 : n < 0 ∨ k < 0
      · rw [if_pos h4] at q
        by_cases h5 : n < 0
        · rw [if_pos h5]; exact q.ref h
        · have h6 : k < 0 := by rcases h4 with h4 | h4; exact absurd h4 h5; exact h4
          rw [if_neg h5, if_neg (fun z => nlt_of_le z h6)]; exact q.ref h
      · rw [if_neg h4] at q
        have h5 : ¬ n < 0 := fun z => h4 (Or.inl z)
        have h6 : ¬ k < 0 := fun z => h4 (Or.inr z)
        rw [if_neg h5, if_pos (not_lt_le h6)]
        by_cases h7 : n < 1 ∨ 14 < n ∨ k < 1 ∨ 4 < k
        · rw [if_pos h7] at q
          by_cases a1 : n < 1
          · rw [if_pos a1]; exact q.ref h
          rw [if_neg a1]
          by_cases a2 : 14 < n
          · rw [if_pos a2]; exact q.ref h
          rw [if_neg a2]
          by_cases a3 : k < 1
          · rw [if_pos a3]; exact q.ref h
          rw [if_neg a3]
          have a4 : 4 < k := by rcases h7 with h7 | h7 | h7 | h7 <;> first | exact absurd h7 a1 | exact absurd h7 a2 | exact absurd h7 a3 | exact h7
          rw [if_neg (fun z => nlt_of_le z a4)]; exact q.ref h
        · rw [if_neg h7] at q
          have a1 : ¬ n < 1 := fun z => h7 (Or.inl z)
          have a2 : ¬ 14 < n := fun z => h7 (Or.inr (Or.inl z))
          have a3 : ¬ k < 1 := fun z => h7 (Or.inr (Or.inr (Or.inl z)))
          have a4 : ¬ 4 < k := fun z => h7 (Or.inr (Or.inr (Or.inr z)))
          rw [if_neg a1, if_neg a2, if_neg a3, if_pos (not_lt_le a4)]
          obtain ⟨kd', c1, c2, rfl⟩ := in_of (a := 0) (b := 3) (by decide) (by decide) h2 h3
          obtain ⟨n', d1, d2, rfl⟩ := in_of (a := 1) (b := 14) (by decide) (by decide) a1 a2
          obtain ⟨k', e1, e2, rfl⟩ := in_of (a := 1) (b := 4) (by decide) (by decide) a3 a4
          rw [nI_clamp (by omega), nI_clamp (by omega), nI_clamp (by omega)] at q
          rw [nI_clamp (by omega)]
          refine clearK (by omega) (fun I1 f1 f2 f3 f4 f5 f6 f7 => ⟨(vpN (by omega)).mpr hp, fun I2 g1 => ⟨(vpN (by omega)).mpr hp, fun I3 g2 => ?_⟩⟩)
          have hI : ∀ i, i ≠ 178 → i ≠ 181 → I3 i = I1 i := fun i u1 u2 => by rw [g2, sI_n _ _ u2, g1, sI_n _ _ u1]
          have b1 : ∀ j, I3 178 j = if j = p then nI kd' else I 178 j := fun j => by rw [g2, sI_n _ _ (by omega), g1, sI_s, upd_at, f1 178 (by omega)]
          have b2 : ∀ j, I3 181 j = if j = p then 0 else I 181 j := fun j => by rw [g2, sI_s, upd_at, g1, sI_n _ _ (by omega), f1 181 (by omega)]
          refine q.don ⟨fun i hi => by rw [hI i (by omega) (by omega), f1 i (by omega)], fun _ _ => rfl⟩ (h.at hp (fun j hj h20 => ⟨by rw [b1, if_neg hj], by rw [hI 179 (by omega) (by omega), f1 179 (by omega)], by rw [b2, if_neg hj], by rw [hI 182 (by omega) (by omega), f1 182 (by omega)], by rw [hI 183 (by omega) (by omega), f1 183 (by omega)], ⟨?_, ?_, ?_, fun s hs => ⟨?_, ?_⟩, fun s a hs ha => ⟨?_, ?_⟩⟩, fun _ _ => rfl⟩) (fun j _ => by rw [hI 177 (by omega) (by omega), f1 177 (by omega)]) (by rw [hI 218 (by omega) (by omega), f1 218 (by omega)]) ⟨rfl, rfl, rfl, rfl⟩ ⟨by rw [b1, if_pos rfl]; rfl, ?_, newA_VA c2 d1 d2 e1 e2⟩ ((h.1 p hp).2.kp ⟨by rw [hI 183 (by omega) (by omega), f1 183 (by omega)], by rw [hI 182 (by omega) (by omega), f1 182 (by omega)]⟩))
          · rw [hI 184 (by omega) (by omega)]; exact (f3 j hj).1
          · rw [hI 185 (by omega) (by omega)]; exact (f3 j hj).2.1
          · rw [hI 186 (by omega) (by omega)]; exact (f3 j hj).2.2
          · rw [hI 187 (by omega) (by omega), f4, if_neg (by omega)]
          · rw [hI 188 (by omega) (by omega), f5, if_neg (by omega)]
          · rw [hI 189 (by omega) (by omega), f6, if_neg (by omega)]
          · rw [hI 190 (by omega) (by omega), f7, if_neg (by omega)]
          · refine clear_rep d2 e2 (by rw [hI 184 (by omega) (by omega), hI 185 (by omega) (by omega), hI 186 (by omega) (by omega)]; exact f2) (fun s hs => ?_) (fun s a hs ha => ?_)
            · rw [hI 187 (by omega) (by omega), hI 188 (by omega) (by omega), f4, f5, if_pos (by omega), if_pos (by omega)]; exact ⟨rfl, rfl⟩
            · rw [hI 189 (by omega) (by omega), hI 190 (by omega) (by omega), f6, f7, if_pos (by omega), if_pos (by omega)]; exact ⟨rfl, rfl⟩
  · rw [m_isPlaceB hb, if_pos rfl]
    rw [e] at q
    exact q.ref h
