/-! the class' first unlike row -/
theorem enP_1 (x : Option (Nat × Nat)) : enP x + 1 = nI (prK x) := by
  cases x with
  | none => rfl
  | some q => show nI (q.1 * 4 + q.2) + 1 = _; rw [nI_1]; rfl
theorem c_pairKey {x y : Option (Nat × Nat)} {I : MI} {J : MJ} {Q : Int32 → MI → MJ → Prop} : f_Chart_pairKey (enP x) (enP y) I J Q ↔ Q (nI (cdP x y)) I J := by
  unfold f_Chart_pairKey cdP
  rw [enP_1, show (57 : Int32) = nI 57 from rfl, pk_mul, Int32.add_assoc, enP_1, nI_add]
theorem dc_en {k : Nat} (hk : k < 57 * 57) : nI k / 57 - 1 = enP (dcP (k / 57)) ∧ nI k - nI k / 57 * 57 - 1 = enP (dcP (k % 57)) := by
  have key : ∀ n, n < 57 → nI n - 1 = enP (dcP n) := by
    intro n hn
    unfold dcP
    by_cases h : n = 0
    · rw [if_pos h, h]; rfl
    · rw [if_neg h]
      show nI n - 1 = nI ((n - 1) / 4 * 4 + (n - 1) % 4)
      rw [show (n - 1) / 4 * 4 + (n - 1) % 4 = n - 1 by omega, l1, pk_sub (by omega)]
  rw [show (57 : Int32) = nI 57 from rfl, pk_rem (by omega) (by decide) (by decide), pk_div (by omega) (by decide) (by decide)]
  exact ⟨key _ (by omega), key _ (by omega)⟩
