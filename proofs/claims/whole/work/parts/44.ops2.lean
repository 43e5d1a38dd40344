/-! machine: laying a new one -/
theorem fillK {a len : Nat} {v : Int32} {I : MI} {J : MJ} {Q : MI → MJ → Prop} (hl : len < 2 ^ 31) (k : ∀ I' : MI, (∀ i, i ≠ a → I' i = I i) → (∀ j, I' a j = if j < len then v else I a j) → Q I' J) : f_Arrays_fill a len v I J Q := by
  unfold f_Arrays_fill
  intro t ht
  refine ⟨len + 1, ?_⟩
  have key : ∀ (r p : Nat) (I1 : MI), p + r = len → (∀ i, i ≠ a → I1 i = I i) → (∀ j, I1 a j = if j < p then v else I a j) → f_Arrays_fill_L5 a len v t (fun I J => Q I J) (r + 1) (nI p) I1 J := by
    intro r
    induction r with
    | zero =>
      intro p I1 hp h1 h2
      unfold f_Arrays_fill_L5
      rw [ht, if_pos (show Int32.ofNat len ≤ nI p from nI_le (by omega) (by omega))]
      have : p = len := by omega
      subst this
      exact k I1 h1 h2
    | succ r ih =>
      intro p I1 hp h1 h2
      unfold f_Arrays_fill_L5
      rw [ht, if_neg (show ¬ Int32.ofNat len ≤ nI p from nI_ge (by omega) (by omega))]
      refine ⟨(vpN (by omega)).mpr (by omega), fun I2 e2 t2 et => ?_⟩
      rw [et, nI_1]
      rw [nI_clamp (by omega)] at e2
      rw [← ht]
      refine ih (p + 1) I2 (by omega) (fun i hi => by rw [e2, sI_n _ _ hi, h1 i hi]) (fun j => ?_)
      rw [e2, sI_s, upd_at, h2 j]
      by_cases hj : j = p
      · subst hj; simp
      · by_cases hj2 : j < p
        · simp [hj, hj2, Nat.lt_succ_of_lt hj2]
        · simp [hj, hj2, show ¬ j < p + 1 by omega]
  exact key len 0 I (by omega) (fun _ _ => rfl) (fun j => by simp)
/-- a new machine -/
def newA (kd n k : Nat) : AM := (kd, k, List.replicate n (some (List.replicate k (some 0, 0)), 0))
theorem newA_n (kd n k : Nat) : aN (newA kd n k) = n := by simp [aN, newA]
theorem newA_VA {kd n k : Nat} (h1 : kd ≤ 3) (h2 : 1 ≤ n) (h3 : n ≤ 14) (h4 : 1 ≤ k) (h5 : k ≤ 4) : VA (newA kd n k) := by
  refine ⟨h1, h4, h5, by rw [newA_n]; exact h2, by rw [newA_n]; exact h3, fun q hq => ?_⟩
  have : q = (some (List.replicate k (some 0, 0)), 0) := (List.mem_replicate.mp hq).2
  subst this
  refine ⟨by simp, fun _ => ⟨_, rfl, by simp [newA], fun x hx => ?_⟩, fun r hr => ?_⟩
  · rw [(List.mem_replicate.mp hx).2]; simp
  · cases hr
    refine ⟨by simp [newA], fun x hx => ?_⟩
    rw [(List.mem_replicate.mp hx).2]
    refine ⟨fun t ht => by cases ht; rw [newA_n]; omega, by simp, fun _ => rfl⟩
theorem beginK {o kd n k : Nat} {I : MI} {J : MJ} {Q : MI → MJ → Prop} (q : ∀ I' : MI, (∀ i, i < o ∨ o + 4 < i → I' i = I i) → (∀ j, 3 ≤ j → I' o j = I o j) → RepC I' o (newA kd n k) → (∀ s, s < 14 → I' (o + 1) s = nI k ∧ I' (o + 4) s = 0) → (∀ j, j < 56 → I' (o + 2) j = 0 ∧ I' (o + 3) j = 0) → Q I' J) (hn : n ≤ 14) (hk : k ≤ 4) : f_Machine_begin o (nI kd) (nI n) (nI k) I J Q := by
  unfold f_Machine_begin
  intro I2 e2 I7 e7 I12 e12
  have f0 : ∀ i, i ≠ o → I12 i = I i := fun i hi => by rw [e12, sI_n _ _ hi, e7, sI_n _ _ hi, e2, sI_n _ _ hi]
  have f1 : I12 o 0 = nI kd ∧ I12 o 1 = nI n ∧ I12 o 2 = nI k ∧ ∀ j, 3 ≤ j → I12 o j = I o j := by
    rw [e12, sI_s, e7, sI_s, e2, sI_s]
    simp only [upd_at]
    refine ⟨by simp, by simp, by simp, fun j hj => ?_⟩
    rw [if_neg (by omega), if_neg (by omega), if_neg (by omega)]
  refine fillK (by decide) (fun I3 a1 a2 => fillK (by decide) (fun I4 b1 b2 => fillK (by decide) (fun I5 c1 c2 => fillK (by decide) (fun I6 d1 d2 => ?_))))
  have g : ∀ i, i ≠ o + 1 → i ≠ o + 2 → i ≠ o + 3 → i ≠ o + 4 → I6 i = I12 i := fun i h1 h2 h3 h4 => by rw [d1 i h4, c1 i h3, b1 i h2, a1 i h1]
  have r1 : ∀ s, s < 14 → I6 (o + 1) s = nI k := fun s hs => by rw [d1 _ (by omega), c1 _ (by omega), b1 _ (by omega), a2, if_pos hs]
  have r2 : ∀ s, s < 56 → I6 (o + 2) s = 0 := fun s hs => by rw [d1 _ (by omega), c1 _ (by omega), b2, if_pos hs]
  have r3 : ∀ s, s < 56 → I6 (o + 3) s = 0 := fun s hs => by rw [d1 _ (by omega), c2, if_pos hs]
  have r4 : ∀ s, s < 14 → I6 (o + 4) s = 0 := fun s hs => by rw [d2, if_pos hs]
  refine q I6 (fun i hi => by rw [g i (by omega) (by omega) (by omega) (by omega), f0 i (by omega)]) (fun j hj => by rw [g o (by omega) (by omega) (by omega) (by omega)]; exact f1.2.2.2 j hj) ?_ (fun s hs => ⟨r1 s hs, r4 s hs⟩) (fun j hj => ⟨r2 j hj, r3 j hj⟩)
  refine ⟨?_, ?_, ?_, fun s x hx => ?_⟩
  · rw [g o (by omega) (by omega) (by omega) (by omega)]; exact f1.1
  · rw [g o (by omega) (by omega) (by omega) (by omega), newA_n]; exact f1.2.1
  · rw [g o (by omega) (by omega) (by omega) (by omega)]; exact f1.2.2.1
  · have hs : s < n := by have := (List.getElem?_eq_some_iff.mp hx).1; simpa [newA] using this
    have : x = (some (List.replicate k (some 0, 0)), 0) := by
      have := List.mem_of_getElem? hx
      exact (List.mem_replicate.mp this).2
    subst this
    refine ⟨r4 s (by omega), (fun h => by cases h), fun r hr => ?_⟩
    cases hr
    refine ⟨by rw [r1 s (by omega)]; simp, fun a x hx2 => ?_⟩
    have ha : a < k := by have := (List.getElem?_eq_some_iff.mp hx2).1; simpa using this
    have : x = (some 0, 0) := (List.mem_replicate.mp (List.mem_of_getElem? hx2)).2
    subst this
    exact ⟨r2 _ (by omega), r3 _ (by omega)⟩
def opMachine (x kd n k : Int32) (σ : SG) : Int32 × SG := match plc x with
  | none => ref 2 σ
  | some p => if kd < 0 ∨ 3 < kd then ref 4 σ else if n < 0 ∨ k < 0 then ref 3 σ else if n < 1 ∨ 14 < n ∨ k < 1 ∨ 4 < k then ref 2 σ else don n (setF (setD σ p (some (.inl (newA kd.toNatClampNeg n.toNatClampNeg k.toNatClampNeg)))) p (σ.2.1 p))
theorem not_lt_le {x y : Int32} (h : ¬ x < y) : y ≤ x := by
  rw [Int32.lt_iff_toInt_lt] at h
  rw [Int32.le_iff_toInt_le]
  omega
theorem le_not_lt {x y : Int32} (h : y ≤ x) : ¬ x < y := by
  rw [Int32.le_iff_toInt_le] at h
  rw [Int32.lt_iff_toInt_lt]
  omega
/-- a number in bounds -/
theorem in_of {x : Int32} {a b : Nat} (h2 : a < 2 ^ 31) (hb : b < 2 ^ 31) (h0 : ¬ x < nI a) (h1 : ¬ nI b < x) : ∃ n, a ≤ n ∧ n ≤ b ∧ x = nI n := by
  have g0 := not_lt_le h0
  have g1 := not_lt_le h1
  rw [Int32.le_iff_toInt_le, nI_toInt h2] at g0
  rw [Int32.le_iff_toInt_le, nI_toInt hb] at g1
  have hx : ¬ x < 0 := by
    rw [Int32.lt_iff_toInt_lt]
    simp
    omega
  obtain ⟨j, hj, rfl⟩ := nI_of hx
  rw [nI_toInt hj] at g0 g1
  exact ⟨j, by omega, by omega, rfl⟩
theorem nlt_of_le {x y : Int32} (h : x ≤ y) : ¬ y < x := le_not_lt h
theorem lt_of_nle {x y : Int32} (h : ¬ x ≤ y) : y < x := by
  rw [Int32.le_iff_toInt_le] at h
  rw [Int32.lt_iff_toInt_lt]
  omega
theorem S_machine {x kd n k : Int32} {I : MI} {J : MJ} {σ : SG} {Q : Int32 → MI → MJ → Prop} (h : AbsS I J σ) (q : KS I J (opMachine x kd n k σ) Q) : f_School_machine x kd n k I J Q := by
  unfold f_School_machine
  unfold opMachine at q
  rcases plc_cases x with ⟨p, hp, rfl, e⟩ | ⟨hb, e⟩
  · rw [s_placeFaultN hp, if_pos rfl]
    rw [e] at q
    simp only at q
    by_cases h1 : kd < 0 ∨ 3 < kd
    · rw [if_pos h1] at q
      have key : f_School_machine_b20 (nI p) kd n k Q I J := by
        unfold f_School_machine_b20 f_School_machine_b23
        rw [if_neg (by decide)]
        unfold f_School_machine_b40
        rw [if_neg (by decide)]
        unfold f_School_machine_b71
        rw [if_neg (by decide)]
        exact q.ref h
      by_cases h2 : kd < 0
      · rw [if_pos h2]; exact key
      · have h3 : 3 < kd := by rcases h1 with h1 | h1; exact absurd h1 h2; exact h1
        rw [if_neg h2, if_neg (fun z => nlt_of_le z h3)]; exact key
    · rw [if_neg h1] at q
      have h2 : ¬ kd < 0 := fun z => h1 (Or.inl z)
      have h3 : ¬ 3 < kd := fun z => h1 (Or.inr z)
      rw [if_neg h2, if_pos (not_lt_le h3)]
      unfold f_School_machine_b23
      rw [if_pos rfl]
      by_cases h4 : n < 0 ∨ k < 0
      · rw [if_pos h4] at q
        have key : f_School_machine_b37 (nI p) kd n k Q I J := by
          unfold f_School_machine_b37 f_School_machine_b40
          rw [if_neg (by decide)]
          unfold f_School_machine_b71
          rw [if_neg (by decide)]
          exact q.ref h
        by_cases h5 : n < 0
        · rw [if_pos h5]; exact key
        · have h6 : k < 0 := by rcases h4 with h4 | h4; exact absurd h4 h5; exact h4
          rw [if_neg h5, if_neg (fun z => nlt_of_le z h6)]; exact key
      · rw [if_neg h4] at q
        have h5 : ¬ n < 0 := fun z => h4 (Or.inl z)
        have h6 : ¬ k < 0 := fun z => h4 (Or.inr z)
        rw [if_neg h5, if_pos (not_lt_le h6)]
        unfold f_School_machine_b40
        rw [if_pos rfl]
        by_cases h7 : n < 1 ∨ 14 < n ∨ k < 1 ∨ 4 < k
        · rw [if_pos h7] at q
          have key : f_School_machine_b68 (nI p) kd n k Q I J := by
            unfold f_School_machine_b68 f_School_machine_b71
            rw [if_neg (by decide)]
            exact q.ref h
          by_cases a1 : n < 1
          · rw [if_pos a1]; exact key
          rw [if_neg a1]
          by_cases a2 : 14 < n
          · rw [if_pos a2]; exact key
          rw [if_neg a2]
          by_cases a3 : k < 1
          · rw [if_pos a3]; exact key
          rw [if_neg a3]
          have a4 : 4 < k := by rcases h7 with h7 | h7 | h7 | h7 <;> first | exact absurd h7 a1 | exact absurd h7 a2 | exact absurd h7 a3 | exact h7
          rw [if_neg (fun z => nlt_of_le z a4)]; exact key
        · rw [if_neg h7] at q
          have a1 : ¬ n < 1 := fun z => h7 (Or.inl z)
          have a2 : ¬ 14 < n := fun z => h7 (Or.inr (Or.inl z))
          have a3 : ¬ k < 1 := fun z => h7 (Or.inr (Or.inr (Or.inl z)))
          have a4 : ¬ 4 < k := fun z => h7 (Or.inr (Or.inr (Or.inr z)))
          rw [if_neg a1, if_neg a2, if_neg a3, if_pos (not_lt_le a4)]
          obtain ⟨kd', c1, c2, rfl⟩ := in_of (a := 0) (b := 3) (by decide) (by decide) h2 h3
          obtain ⟨n', d1, d2, rfl⟩ := in_of (a := 1) (b := 14) (by decide) (by decide) a1 a2
          obtain ⟨k', e1, e2, rfl⟩ := in_of (a := 1) (b := 4) (by decide) (by decide) a3 a4
          rw [nI_clamp (by omega), nI_clamp (by omega), nI_clamp (by omega)] at q
          unfold f_School_machine_b71
          rw [if_pos rfl, nI_clamp (by omega)]
          refine ⟨(vpN (by omega)).mpr hp, beginK (fun I1 f1 f2 f3 f4 f5 => ⟨(vpN (by omega)).mpr hp, fun I2 g1 => ?_⟩) d2 e2⟩
          have hI2 : ∀ i, i ≠ 1 + 64 + 7 * p → I2 i = I1 i := fun i hi => by rw [g1, sI_n _ _ hi]
          have hb0 : I2 (1 + 64 + 7 * p) 0 = nI kd' ∧ ∀ j, j ≠ 0 → I2 (1 + 64 + 7 * p) j = I (1 + 64 + 7 * p) j := by
            rw [g1, sI_s, ← f1 (1 + 64 + 7 * p) (by omega)]
            exact ⟨by simp [upd], fun j hj => by simp [upd, hj]⟩
          refine q.don ⟨fun i hi => by rw [hI2 i (by omega), f1 i (by omega)], fun _ _ => rfl⟩ (h.at hp (fun i hi h2 => by rw [hI2 i (by omega), f1 i (by omega)]) (fun _ _ _ => rfl) ⟨hb0.1, f3.kp (fun i u1 u2 => hI2 i (by omega)), newA_VA c2 d1 d2 e1 e2⟩ ((h.1 p hp).2.kp ⟨hb0.2 5 (by omega), hb0.2 6 (by omega)⟩))
  · rw [s_placeFaultB hb, if_neg (by decide)]
    rw [e] at q
    unfold f_School_machine_b23
    rw [if_neg (by decide)]
    unfold f_School_machine_b40
    rw [if_neg (by decide)]
    unfold f_School_machine_b71
    rw [if_neg (by decide)]
    exact q.ref h
