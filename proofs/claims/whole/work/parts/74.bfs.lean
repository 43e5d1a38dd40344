/-! charts: nodes in the order of their first words -/
theorem php : ∀ (m n : Nat) (f : Nat → Nat), (∀ i, i < n → f i < m) → (∀ i j, i < n → j < n → f i = f j → i = j) → n ≤ m
  | 0, n, f, h1, _ => by
    cases n with
    | zero => exact Nat.le_refl _
    | succ n => exact absurd (h1 0 (by omega)) (by omega)
  | m + 1, n, f, h1, h2 => by
    cases n with
    | zero => exact Nat.zero_le _
    | succ n =>
      have := php m n (fun i => if f i = m then f n else f i) (fun i hi => by
        have a1 := h1 i (by omega)
        have a2 := h1 n (by omega)
        by_cases h : f i = m
        · simp only [h, if_true]
          have : f n ≠ m := fun e => by have := h2 i n (by omega) (by omega) (by omega); omega
          omega
        · simp only [h, if_false]
          omega) (fun i j hi hj e => by
        by_cases h : f i = m
        · by_cases h' : f j = m
          · exact h2 i j (by omega) (by omega) (by omega)
          · simp only [h, h', if_true, if_false] at e
            have := h2 n j (by omega) (by omega) e
            omega
        · by_cases h' : f j = m
          · simp only [h, h', if_true, if_false] at e
            have := h2 i n (by omega) (by omega) e
            omega
          · simp only [h, h', if_false] at e
            exact h2 i j (by omega) (by omega) e)
      omega
def pushL (L : List Nat) (k : Nat) : List Nat := if k ∈ L then L else L ++ [k]
def rowL (f : Nat → Option Nat) : Nat → List Nat → List Nat
  | 0, L => L
  | a + 1, L => match f a with
    | none => rowL f a L
    | some k => pushL (rowL f a L) k
def bfB (nx : Nat → Nat → Option Nat) (K k0 : Nat) : Nat → List Nat
  | 0 => [k0]
  | i + 1 => match (bfB nx K k0 i)[i]? with
    | none => bfB nx K k0 i
    | some x => rowL (nx x) K (bfB nx K k0 i)
theorem pushL_p (L : List Nat) (k : Nat) : ∃ E, pushL L k = L ++ E := by
  unfold pushL
  split
  · exact ⟨[], by simp⟩
  · exact ⟨[k], rfl⟩
theorem rowL_p (f : Nat → Option Nat) : ∀ a L, ∃ E, rowL f a L = L ++ E
  | 0, L => ⟨[], by simp [rowL]⟩
  | a + 1, L => by
    obtain ⟨E, h⟩ := rowL_p f a L
    unfold rowL
    cases f a with
    | none => exact ⟨E, h⟩
    | some k =>
      obtain ⟨E2, h2⟩ := pushL_p (rowL f a L) k
      exact ⟨E ++ E2, by show pushL (rowL f a L) k = L ++ (E ++ E2); rw [h2, h, List.append_assoc]⟩
theorem rowL_mono (f : Nat → Option Nat) {a b : Nat} (h : a ≤ b) (L : List Nat) : ∃ E, rowL f b L = rowL f a L ++ E := by
  induction b with
  | zero => have : a = 0 := by omega
            subst this; exact ⟨[], by simp⟩
  | succ b ih =>
    by_cases e : a = b + 1
    · subst e; exact ⟨[], by simp⟩
    · obtain ⟨E, hE⟩ := ih (by omega)
      have : ∃ E2, rowL f (b + 1) L = rowL f b L ++ E2 := by
        conv => arg 1; ext E2; lhs; unfold rowL
        cases f b with
        | none => exact ⟨[], by simp⟩
        | some k => exact pushL_p _ k
      obtain ⟨E2, h2⟩ := this
      exact ⟨E ++ E2, by rw [h2, hE, List.append_assoc]⟩
theorem bfB_s (nx : Nat → Nat → Option Nat) (K k0 i : Nat) : ∃ E, bfB nx K k0 (i + 1) = bfB nx K k0 i ++ E := by
  conv => arg 1; ext E; lhs; unfold bfB
  cases (bfB nx K k0 i)[i]? with
  | none => exact ⟨[], by simp⟩
  | some x => exact rowL_p _ _ _
theorem bfB_mono (nx : Nat → Nat → Option Nat) (K k0 : Nat) {i j : Nat} (h : i ≤ j) : ∃ E, bfB nx K k0 j = bfB nx K k0 i ++ E := by
  induction j with
  | zero => have : i = 0 := by omega
            subst this; exact ⟨[], by simp⟩
  | succ j ih =>
    by_cases e : i = j + 1
    · subst e; exact ⟨[], by simp⟩
    · obtain ⟨E, hE⟩ := ih (by omega)
      obtain ⟨E2, h2⟩ := bfB_s nx K k0 j
      exact ⟨E ++ E2, by rw [h2, hE, List.append_assoc]⟩
theorem bfB_len (nx : Nat → Nat → Option Nat) (K k0 : Nat) {i j : Nat} (h : i ≤ j) : (bfB nx K k0 i).length ≤ (bfB nx K k0 j).length := by
  obtain ⟨E, e⟩ := bfB_mono nx K k0 h
  rw [e]; simp
theorem bfB_step {nx : Nat → Nat → Option Nat} {K k0 i x : Nat} (h : (bfB nx K k0 i)[i]? = some x) : bfB nx K k0 (i + 1) = rowL (nx x) K (bfB nx K k0 i) := by
  conv => lhs; unfold bfB
  rw [h]
/-- closed lists stay -/
theorem bfB_cl {nx : Nat → Nat → Option Nat} {K k0 i : Nat} (h : (bfB nx K k0 i).length ≤ i) : ∀ j, i ≤ j → bfB nx K k0 j = bfB nx K k0 i := by
  intro j hj
  induction j with
  | zero => have : i = 0 := by omega
            rw [this]
  | succ j ih =>
    by_cases e : i = j + 1
    · rw [e]
    · have := ih (by omega)
      conv => lhs; unfold bfB
      rw [this, List.getElem?_eq_none (by omega)]
theorem pushL_nd {L : List Nat} {k : Nat} (h : L.Nodup) : (pushL L k).Nodup := by
  unfold pushL
  split
  · exact h
  · rename_i hk
    rw [List.nodup_append]
    exact ⟨h, by simp, fun a ha b hb => by simp at hb; subst hb; intro e; subst e; exact hk ha⟩
theorem rowL_nd {f : Nat → Option Nat} : ∀ a {L : List Nat}, L.Nodup → (rowL f a L).Nodup
  | 0, L, h => h
  | a + 1, L, h => by
    unfold rowL
    cases f a with
    | none => exact rowL_nd a h
    | some k => exact pushL_nd (rowL_nd a h)
theorem bfB_nd (nx : Nat → Nat → Option Nat) (K k0 : Nat) : ∀ i, (bfB nx K k0 i).Nodup
  | 0 => by simp [bfB]
  | i + 1 => by
    unfold bfB
    cases (bfB nx K k0 i)[i]? with
    | none => exact bfB_nd nx K k0 i
    | some x => exact rowL_nd K (bfB_nd nx K k0 i)
theorem pushL_mem {L : List Nat} {k : Nat} : k ∈ pushL L k := by
  unfold pushL
  split
  · assumption
  · simp
theorem rowL_mem {f : Nat → Option Nat} {k : Nat} : ∀ {b} {L : List Nat} {a}, a < b → f a = some k → k ∈ rowL f b L
  | 0, _, _, h, _ => absurd h (by omega)
  | b + 1, L, a, h, e => by
    by_cases hab : a = b
    · subst hab
      unfold rowL
      rw [e]
      exact pushL_mem
    · have := rowL_mem (L := L) (show a < b by omega) e
      obtain ⟨E, hE⟩ := rowL_mono f (show b ≤ b + 1 by omega) L
      rw [hE]
      exact List.mem_append_left _ this
/-- the successors of a node that was worked through -/
theorem bfB_suc {nx : Nat → Nat → Option Nat} {K k0 i j x a k : Nat} (hij : i < j) (hx : (bfB nx K k0 i)[i]? = some x) (ha : a < K) (hk : nx x a = some k) : k ∈ bfB nx K k0 j := by
  obtain ⟨E, hE⟩ := bfB_mono nx K k0 (show i + 1 ≤ j by omega)
  rw [hE, bfB_step hx]
  exact List.mem_append_left _ (rowL_mem ha hk)
theorem pre_get {α : Type} {L E : List α} {i : Nat} {x : α} (h : L[i]? = some x) : (L ++ E)[i]? = some x := by
  rw [List.getElem?_append_left (List.getElem?_eq_some_iff.mp h).1]; exact h
theorem bfB_get {nx : Nat → Nat → Option Nat} {K k0 i j n x : Nat} (h : (bfB nx K k0 i)[n]? = some x) (hij : i ≤ j) : (bfB nx K k0 j)[n]? = some x := by
  obtain ⟨E, hE⟩ := bfB_mono nx K k0 hij
  rw [hE]
  exact pre_get h
/-- lists that are closed: all successors are there -/
theorem bfB_closed {nx : Nat → Nat → Option Nat} {K k0 n : Nat} (h : (bfB nx K k0 n).length ≤ n) {x a k : Nat} (hx : x ∈ bfB nx K k0 n) (ha : a < K) (hk : nx x a = some k) : k ∈ bfB nx K k0 n := by
  obtain ⟨i, hi⟩ := List.mem_iff_getElem?.mp hx
  have hlt := (List.getElem?_eq_some_iff.mp hi).1
  -- the node stood in its list when it was worked through
  have key : (bfB nx K k0 i)[i]? = some x := by
    by_cases hl : i < (bfB nx K k0 i).length
    · have h1 := List.getElem?_eq_getElem hl
      have h2 := bfB_get h1 (show i ≤ n by omega)
      rw [hi] at h2
      rw [h1, ← h2]
    · have := bfB_cl (nx := nx) (K := K) (k0 := k0) (i := i) (by omega) n (by omega)
      rw [this] at hlt
      omega
  exact bfB_suc (show i < n by omega) key ha hk
theorem bfB_k0 (nx : Nat → Nat → Option Nat) (K k0 i : Nat) : (bfB nx K k0 i)[0]? = some k0 := by
  have : (bfB nx K k0 0)[0]? = some k0 := by simp [bfB]
  exact bfB_get this (Nat.zero_le _)
/-- every node is the start, or a successor of an earlier one -/
theorem pushL_new {L : List Nat} {k k' : Nat} (h : k ∈ pushL L k') : k ∈ L ∨ k = k' := by
  unfold pushL at h
  by_cases hk : k' ∈ L
  · rw [if_pos hk] at h; exact Or.inl h
  · rw [if_neg hk] at h
    rcases List.mem_append.mp h with h | h
    · exact Or.inl h
    · simp at h; exact Or.inr h
theorem rowL_new {f : Nat → Option Nat} {k : Nat} : ∀ {b} {L : List Nat}, k ∈ rowL f b L → k ∈ L ∨ ∃ a, a < b ∧ f a = some k
  | 0, L, h => Or.inl h
  | b + 1, L, h => by
    unfold rowL at h
    cases hf : f b with
    | none =>
      rw [hf] at h
      rcases rowL_new h with h | ⟨a, h1, h2⟩
      · exact Or.inl h
      · exact Or.inr ⟨a, by omega, h2⟩
    | some k' =>
      rw [hf] at h
      rcases pushL_new h with h | h
      · rcases rowL_new h with h | ⟨a, h1, h2⟩
        · exact Or.inl h
        · exact Or.inr ⟨a, by omega, h2⟩
      · subst h
        exact Or.inr ⟨b, by omega, hf⟩
theorem bfB_inv {nx : Nat → Nat → Option Nat} {K k0 : Nat} {P : Nat → Prop} (h0 : P k0) (hs : ∀ x a k, P x → a < K → nx x a = some k → P k) : ∀ i x, x ∈ bfB nx K k0 i → P x
  | 0, x, h => by simp [bfB] at h; rw [h]; exact h0
  | i + 1, x, h => by
    cases hx : (bfB nx K k0 i)[i]? with
    | none =>
      unfold bfB at h
      rw [hx] at h
      exact bfB_inv h0 hs i x h
    | some y =>
      rw [bfB_step hx] at h
      rcases rowL_new h with h | ⟨a, h1, h2⟩
      · exact bfB_inv h0 hs i x h
      · exact hs y a x (bfB_inv h0 hs i y (List.mem_of_getElem? hx)) h1 h2
