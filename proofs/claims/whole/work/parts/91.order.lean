/-! the order of first words -/
def runK (nx : Nat → Nat → Option Nat) : Nat → List Nat → Option Nat
  | k, [] => some k
  | k, a :: w => (nx k a).bind (fun j => runK nx j w)
theorem runK_app (nx : Nat → Nat → Option Nat) : ∀ (u v : List Nat) (k : Nat), runK nx k (u ++ v) = (runK nx k u).bind (fun j => runK nx j v)
  | [], v, k => rfl
  | a :: u, v, k => by
    show (nx k a).bind (fun j => runK nx j (u ++ v)) = ((nx k a).bind (fun j => runK nx j u)).bind (fun j => runK nx j v)
    cases nx k a with
    | none => rfl
    | some j => exact runK_app nx u v j
theorem runK_1 (nx : Nat → Nat → Option Nat) (k a : Nat) : runK nx k [a] = nx k a := by
  show (nx k a).bind (fun j => some j) = nx k a
  cases nx k a <;> rfl
def IncW (L : List KW) : Prop := ∀ (p q : Nat) (x y : KW), p < q → L[p]? = some x → L[q]? = some y → num x.2 < num y.2
theorem IncW.app {L : List KW} (h : IncW L) {k : Nat} {w : List Nat} (hb : ∀ e ∈ L, num e.2 < num w) : IncW (L ++ [(k, w)]) := by
  intro p q x y hpq hx hy
  rcases app_get hy with ⟨y1, y2⟩ | ⟨y1, y2⟩
  · rcases app_get hx with ⟨x1, x2⟩ | ⟨x1, x2⟩
    · exact h p q x y hpq x2 y2
    · omega
  · rcases app_get hx with ⟨x1, x2⟩ | ⟨x1, x2⟩
    · rw [y2]; exact hb x (List.mem_of_getElem? x2)
    · omega
theorem rowW_inv {nx : Nat → Nat → Option Nat} {k0 K : Nat} {x : KW} (hx : runK nx k0 x.2 = some x.1 ∧ ∀ a ∈ x.2, a < K) : ∀ (a : Nat) (L : List KW), a ≤ K → IncW L → (∀ e ∈ L, num e.2 < 4 * num x.2) → (∀ e ∈ L, runK nx k0 e.2 = some e.1 ∧ ∀ a ∈ e.2, a < K) → IncW (rowW (nx x.1) x.2 a L) ∧ (∀ e ∈ rowW (nx x.1) x.2 a L, num e.2 < 4 * num x.2 + a) ∧ (∀ e ∈ rowW (nx x.1) x.2 a L, runK nx k0 e.2 = some e.1 ∧ ∀ a ∈ e.2, a < K) ∧ ∀ b k, b < a → nx x.1 b = some k → ∃ w, (k, w) ∈ rowW (nx x.1) x.2 a L ∧ num w ≤ 4 * num x.2 + b
  | 0, L, _, h1, h2, h3 => ⟨h1, fun e he => by have := h2 e he; omega, h3, fun b k hb => absurd hb (Nat.not_lt_zero _)⟩
  | a + 1, L, ha, h1, h2, h3 => by
    obtain ⟨i1, i2, i3, i4⟩ := rowW_inv hx a L (by omega) h1 h2 h3
    cases hn : nx x.1 a with
    | none =>
      have hr : rowW (nx x.1) x.2 (a + 1) L = rowW (nx x.1) x.2 a L := by
        conv => lhs; unfold rowW
        rw [hn]
      rw [hr]
      refine ⟨i1, fun e he => by have := i2 e he; omega, i3, fun b k hb hk => ?_⟩
      by_cases hba : b = a
      · rw [hba, hn] at hk; cases hk
      · exact i4 b k (by omega) hk
    | some j =>
      have hr : rowW (nx x.1) x.2 (a + 1) L = pushW (rowW (nx x.1) x.2 a L) j (x.2 ++ [a]) := by
        conv => lhs; unfold rowW
        rw [hn]
      rw [hr]
      by_cases hin : j ∈ (rowW (nx x.1) x.2 a L).map (fun x => x.1)
      · unfold pushW
        rw [if_pos hin]
        refine ⟨i1, fun e he => by have := i2 e he; omega, i3, fun b k hb hk => ?_⟩
        by_cases hba : b = a
        · rw [hba, hn] at hk
          cases hk
          obtain ⟨e, he, e1⟩ := List.mem_map.mp hin
          refine ⟨e.2, by rw [← e1]; exact he, ?_⟩
          have := i2 e he
          omega
        · exact i4 b k (by omega) hk
      · unfold pushW
        rw [if_neg hin]
        have hnum : num (x.2 ++ [a]) = 4 * num x.2 + a := num_app _ _
        refine ⟨i1.app (fun e he => by rw [hnum]; exact i2 e he), fun e he => ?_, fun e he => ?_, fun b k hb hk => ?_⟩
        · rcases List.mem_append.mp he with h | h
          · have := i2 e h; omega
          · simp at h; rw [h]; show num (x.2 ++ [a]) < _; omega
        · rcases List.mem_append.mp he with h | h
          · exact i3 e h
          · simp at h
            rw [h]
            refine ⟨?_, fun b hb => ?_⟩
            · show runK nx k0 (x.2 ++ [a]) = some j
              rw [runK_app, hx.1]
              show runK nx x.1 [a] = some j
              rw [runK_1, hn]
            · rcases List.mem_append.mp hb with h | h
              · exact hx.2 b h
              · simp at h; omega
        · by_cases hba : b = a
          · rw [hba, hn] at hk
            cases hk
            exact ⟨x.2 ++ [a], List.mem_append_right _ (by simp), by rw [hnum, hba]; exact Nat.le_refl _⟩
          · obtain ⟨w, h1', h2'⟩ := i4 b k (by omega) hk
            exact ⟨w, List.mem_append_left _ h1', h2'⟩
theorem bfW_inv {nx : Nat → Nat → Option Nat} {k0 K : Nat} (hK : K ≤ 4) : ∀ i, IncW (bfW nx K k0 i) ∧ (∀ x : KW, (bfW nx K k0 i)[i]? = some x → ∀ e ∈ bfW nx K k0 i, num e.2 < 4 * num x.2) ∧ (∀ e ∈ bfW nx K k0 i, runK nx k0 e.2 = some e.1 ∧ ∀ a ∈ e.2, a < K) ∧ ∀ (p : Nat) (x : KW) (a k : Nat), p < i → (bfW nx K k0 i)[p]? = some x → a < K → nx x.1 a = some k → ∃ w, (k, w) ∈ bfW nx K k0 i ∧ num w ≤ 4 * num x.2 + a
  | 0 => by
    refine ⟨fun p q x y hpq hx hy => ?_, fun x hx e he => ?_, fun e he => ?_, fun p x a k hp => absurd hp (Nat.not_lt_zero _)⟩
    · have := (List.getElem?_eq_some_iff.mp hy).1
      simp [bfW] at this
      omega
    · simp [bfW] at hx he
      rw [he, ← hx]
      show num ([] : List Nat) < 4 * num ([] : List Nat)
      decide
    · simp [bfW] at he
      rw [he]
      exact ⟨rfl, fun a ha => by cases ha⟩
  | i + 1 => by
    obtain ⟨h1, h2, h3, h4⟩ := bfW_inv (nx := nx) (k0 := k0) hK i
    cases hx : (bfW nx K k0 i)[i]? with
    | none =>
      have hr : bfW nx K k0 (i + 1) = bfW nx K k0 i := by
        conv => lhs; unfold bfW
        rw [hx]
      have hl : (bfW nx K k0 i).length ≤ i := by
        by_cases h : (bfW nx K k0 i).length ≤ i
        · exact h
        · rw [List.getElem?_eq_getElem (by omega)] at hx; cases hx
      rw [hr]
      refine ⟨h1, fun x hx' => ?_, h3, fun p x a k hp hxp ha hk => h4 p x a k ?_ hxp ha hk⟩
      · have := (List.getElem?_eq_some_iff.mp hx').1; omega
      · have := (List.getElem?_eq_some_iff.mp hxp).1; omega
    | some x =>
      have hst := bfW_step hx
      obtain ⟨i1, i2, i3, i4⟩ := rowW_inv (nx := nx) (k0 := k0) (K := K) (x := x) (h3 x (List.mem_of_getElem? hx)) K (bfW nx K k0 i) (Nat.le_refl _) h1 (h2 x hx) h3
      rw [← hst] at i1 i2 i3 i4
      obtain ⟨E, hE⟩ := bfW_mono nx K k0 (show i ≤ i + 1 by omega)
      have hxi : (bfW nx K k0 (i + 1))[i]? = some x := by rw [hE]; exact pre_get hx
      refine ⟨i1, fun y hy e he => ?_, i3, fun p y a k hp hy ha hk => ?_⟩
      · have h5 := i1 i (i + 1) x y (by omega) hxi hy
        have h6 := i2 e he
        omega
      · by_cases hpi : p = i
        · subst hpi
          rw [hxi] at hy
          cases hy
          exact i4 a k ha hk
        · have hil := (List.getElem?_eq_some_iff.mp hx).1
          have hy' : (bfW nx K k0 i)[p]? = some y := by
            rw [hE, List.getElem?_append_left (by omega)] at hy
            exact hy
          obtain ⟨w, hw1, hw2⟩ := h4 p y a k (by omega) hy' ha hk
          exact ⟨w, by rw [hE]; exact List.mem_append_left _ hw1, hw2⟩
/-- each word that leads somewhere comes no sooner than the node's first word -/
theorem bfW_all {nx : Nat → Nat → Option Nat} {k0 K M : Nat} (hK : K ≤ 4) (hcl : (bfB nx K k0 M).length ≤ M) : ∀ (n : Nat) (v : List Nat) (k : Nat), v.length = n → (∀ a ∈ v, a < K) → runK nx k0 v = some k → ∃ w, (k, w) ∈ bfW nx K k0 M ∧ num w ≤ num v
  | 0, v, k, hn, hv, hr => by
    have : v = [] := List.eq_nil_of_length_eq_zero hn
    subst this
    have hk : k0 = k := by have := hr; simp [runK] at this; exact this
    subst hk
    obtain ⟨E, hE⟩ := bfW_mono nx K k0 (Nat.zero_le M)
    exact ⟨[], by rw [hE]; exact List.mem_append_left _ (by simp [bfW]), Nat.le_refl _⟩
  | n + 1, v, k, hn, hv, hr => by
    have hne : v ≠ [] := fun h => by rw [h] at hn; cases hn
    have hsp := (List.dropLast_concat_getLast hne).symm
    generalize v.dropLast = u at hsp
    generalize v.getLast hne = a at hsp
    subst hsp
    rw [runK_app] at hr
    cases hu : runK nx k0 u with
    | none => rw [hu] at hr; cases hr
    | some x =>
      rw [hu] at hr
      have hr' : nx x a = some k := by rw [← runK_1 nx x a]; exact hr
      obtain ⟨w, h1, h2⟩ := bfW_all hK hcl n u x (by simp at hn; exact hn) (fun b hb => hv b (List.mem_append_left _ hb)) hu
      obtain ⟨p, hp⟩ := List.mem_iff_getElem?.mp h1
      have hpl := (List.getElem?_eq_some_iff.mp hp).1
      rw [bfW_l] at hpl
      obtain ⟨w', h3, h4⟩ := (bfW_inv (nx := nx) (k0 := k0) hK M).2.2.2 p (x, w) a k (by omega) hp (hv a (by simp)) hr'
      refine ⟨w', h3, ?_⟩
      rw [num_app]
      have h4' : num w' ≤ 4 * num w + a := h4
      omega
/-! the least number with a property -/
noncomputable section
def leastN (P : Nat → Prop) : Option Nat := by classical exact if h : ∃ n, P n then some (Classical.choose (pk_least P h)) else none
end
theorem leastN_s {P : Nat → Prop} {n : Nat} (h : P n) (hm : ∀ m, m < n → ¬ P m) : leastN P = some n := by
  have hex : ∃ n, P n := ⟨n, h⟩
  unfold leastN
  rw [dif_pos hex]
  have hs := Classical.choose_spec (pk_least P hex)
  generalize Classical.choose (pk_least P hex) = k at hs
  rcases Nat.lt_trichotomy k n with hl | hl | hl
  · exact absurd hs.1 (hm k hl)
  · rw [hl]
  · exact absurd h (hs.2 n hl)
theorem leastN_n {P : Nat → Prop} (h : ∀ n, ¬ P n) : leastN P = none := by
  unfold leastN
  rw [dif_neg (fun ⟨n, hn⟩ => h n hn)]
def WdP (P : List Nat → Prop) (n : Nat) : Prop := ∃ w : List Nat, (∀ a ∈ w, a < 4) ∧ n = num w ∧ P w
theorem bf_some {nx : Nat → Nat → Option Nat} {k0 K M : Nat} (hK : K ≤ 4) (hcl : (bfB nx K k0 M).length ≤ M) {P : List Nat → Prop} {bad : Nat → Prop} (hs : ∀ v : List Nat, (∀ a ∈ v, a < 4) → (P v ↔ (∀ a ∈ v, a < K) ∧ ∃ k, runK nx k0 v = some k ∧ bad k)) {i : Nat} {x : KW} (hx : (bfW nx K k0 M)[i]? = some x) (hb : bad x.1) (hno : ∀ (j : Nat) (y : KW), j < i → (bfW nx K k0 M)[j]? = some y → ¬ bad y.1) : leastN (WdP P) = some (num x.2) := by
  obtain ⟨h1, h2, h3, h4⟩ := bfW_inv (nx := nx) (k0 := k0) hK M
  obtain ⟨r1, r2⟩ := h3 x (List.mem_of_getElem? hx)
  refine leastN_s ⟨x.2, fun a ha => by have := r2 a ha; omega, rfl, ?_⟩ (fun m hm hP => ?_)
  · exact (hs x.2 (fun a ha => by have := r2 a ha; omega)).mpr ⟨r2, x.1, r1, hb⟩
  · obtain ⟨w, w1, w2, w3⟩ := hP
    obtain ⟨w4, k, w5, w6⟩ := (hs w w1).mp w3
    obtain ⟨w', h5, h6⟩ := bfW_all hK hcl w.length w k rfl w4 w5
    obtain ⟨j, hj⟩ := List.mem_iff_getElem?.mp h5
    rcases Nat.lt_trichotomy j i with hl | hl | hl
    · exact hno j (k, w') hl hj w6
    · subst hl
      rw [hx] at hj
      cases hj
      have : num w' ≤ num w := h6
      have : m < num w' := hm
      omega
    · have := h1 i j x (k, w') hl hx hj
      have h7 : num x.2 < num w' := this
      omega
theorem bf_none {nx : Nat → Nat → Option Nat} {k0 K M : Nat} (hK : K ≤ 4) (hcl : (bfB nx K k0 M).length ≤ M) {P : List Nat → Prop} {bad : Nat → Prop} (hs : ∀ v : List Nat, (∀ a ∈ v, a < 4) → (P v ↔ (∀ a ∈ v, a < K) ∧ ∃ k, runK nx k0 v = some k ∧ bad k)) (hno : ∀ (j : Nat) (y : KW), (bfW nx K k0 M)[j]? = some y → ¬ bad y.1) : leastN (WdP P) = none := by
  refine leastN_n (fun m hP => ?_)
  obtain ⟨w, w1, w2, w3⟩ := hP
  obtain ⟨w4, k, w5, w6⟩ := (hs w w1).mp w3
  obtain ⟨w', h5, h6⟩ := bfW_all hK hcl w.length w k rfl w4 w5
  obtain ⟨j, hj⟩ := List.mem_iff_getElem?.mp h5
  exact hno j (k, w') hj w6
