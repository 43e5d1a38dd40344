/-! classes of nodes, numbered by their first nodes -/
def isRp (R : Nat → Nat → Prop) (i : Nat) : Prop := ∀ j, j < i → ¬ R j i
noncomputable section
def rpL (R : Nat → Nat → Prop) : Nat → List Nat
  | 0 => []
  | n + 1 => by classical exact if isRp R n then rpL R n ++ [n] else rpL R n
def rp (R : Nat → Nat → Prop) (i : Nat) : Nat := by classical exact if h : ∃ j, R j i then Classical.choose (pk_least (fun j => R j i) h) else i
def cr (R : Nat → Nat → Prop) (n : Nat) : Nat := (rpL R n).length
def cls (R : Nat → Nat → Prop) (i : Nat) : Nat := cr R (rp R i)
end
def Eqv (R : Nat → Nat → Prop) : Prop := (∀ i, R i i) ∧ (∀ i j, R i j → R j i) ∧ ∀ i j k, R i j → R j k → R i k
theorem rpL_p {R : Nat → Nat → Prop} {n : Nat} (h : isRp R n) : rpL R (n + 1) = rpL R n ++ [n] := by
  conv => lhs; unfold rpL
  rw [if_pos h]
theorem rpL_n {R : Nat → Nat → Prop} {n : Nat} (h : ¬ isRp R n) : rpL R (n + 1) = rpL R n := by
  conv => lhs; unfold rpL
  rw [if_neg h]
theorem cr_0 (R : Nat → Nat → Prop) : cr R 0 = 0 := rfl
theorem cr_p {R : Nat → Nat → Prop} {n : Nat} (h : isRp R n) : cr R (n + 1) = cr R n + 1 := by unfold cr; rw [rpL_p h]; simp
theorem cr_n {R : Nat → Nat → Prop} {n : Nat} (h : ¬ isRp R n) : cr R (n + 1) = cr R n := by unfold cr; rw [rpL_n h]
theorem cr_s (R : Nat → Nat → Prop) (n : Nat) : cr R n ≤ cr R (n + 1) := by
  by_cases h : isRp R n
  · rw [cr_p h]; omega
  · rw [cr_n h]; omega
theorem cr_mono (R : Nat → Nat → Prop) {i j : Nat} (h : i ≤ j) : cr R i ≤ cr R j := by
  induction j with
  | zero => have : i = 0 := by omega
            rw [this]; exact Nat.le_refl _
  | succ j ih =>
    by_cases e : i = j + 1
    · rw [e]; exact Nat.le_refl _
    · exact Nat.le_trans (ih (by omega)) (cr_s R j)
theorem cr_lt {R : Nat → Nat → Prop} {i j : Nat} (h : isRp R i) (hij : i < j) : cr R i < cr R j := by
  have := cr_mono R (show i + 1 ≤ j by omega)
  rw [cr_p h] at this
  omega
theorem cr_le (R : Nat → Nat → Prop) : ∀ n, cr R n ≤ n
  | 0 => Nat.le_refl _
  | n + 1 => by
    have := cr_le R n
    by_cases h : isRp R n
    · rw [cr_p h]; omega
    · rw [cr_n h]; omega
theorem rp_spec {R : Nat → Nat → Prop} (h : Eqv R) (i : Nat) : R (rp R i) i ∧ (∀ j, j < rp R i → ¬ R j i) ∧ rp R i ≤ i := by
  have hex : ∃ j, R j i := ⟨i, h.1 i⟩
  have e : rp R i = Classical.choose (pk_least (fun j => R j i) hex) := by unfold rp; rw [dif_pos hex]
  have hs := Classical.choose_spec (pk_least (fun j => R j i) hex)
  rw [← e] at hs
  refine ⟨hs.1, hs.2, ?_⟩
  by_cases hl : rp R i ≤ i
  · exact hl
  · exact absurd (h.1 i) (hs.2 i (by omega))
theorem rp_isRp {R : Nat → Nat → Prop} (h : Eqv R) (i : Nat) : isRp R (rp R i) := by
  obtain ⟨h1, h2, h3⟩ := rp_spec h i
  exact fun j hj hR => h2 j hj (h.2.2 j _ i hR h1)
theorem rp_eq {R : Nat → Nat → Prop} (h : Eqv R) {i j : Nat} (hR : R i j) : rp R i = rp R j := by
  obtain ⟨h1, h2, h3⟩ := rp_spec h i
  obtain ⟨k1, k2, k3⟩ := rp_spec h j
  rcases Nat.lt_trichotomy (rp R i) (rp R j) with hl | hl | hl
  · exact absurd (h.2.2 _ _ _ h1 hR) (k2 _ hl)
  · exact hl
  · exact absurd (h.2.2 _ _ _ k1 (h.2.1 _ _ hR)) (h2 _ hl)
theorem rp_rep {R : Nat → Nat → Prop} (h : Eqv R) {i : Nat} (hi : isRp R i) : rp R i = i := by
  obtain ⟨h1, h2, h3⟩ := rp_spec h i
  by_cases e : rp R i = i
  · exact e
  · exact absurd h1 (hi _ (by omega))
theorem rp_of {R : Nat → Nat → Prop} (h : Eqv R) {i j : Nat} (hR : rp R i = rp R j) : R i j := by
  have h1 := (rp_spec h i).1
  have h2 := (rp_spec h j).1
  rw [← hR] at h2
  exact h.2.2 _ _ _ (h.2.1 _ _ h1) h2
theorem cls_eq {R : Nat → Nat → Prop} (h : Eqv R) {i j : Nat} : cls R i = cls R j ↔ R i j := by
  constructor
  · intro e
    unfold cls at e
    refine rp_of h ?_
    rcases Nat.lt_trichotomy (rp R i) (rp R j) with hl | hl | hl
    · have := cr_lt (rp_isRp h i) hl; omega
    · exact hl
    · have := cr_lt (rp_isRp h j) hl; omega
  · intro e
    unfold cls
    rw [rp_eq h e]
theorem cls_lt {R : Nat → Nat → Prop} (h : Eqv R) {i n : Nat} (hi : i < n) : cls R i < cr R n := by
  have := (rp_spec h i).2.2
  exact cr_lt (rp_isRp h i) (by omega)
theorem cls_rep {R : Nat → Nat → Prop} (h : Eqv R) {i : Nat} (hi : isRp R i) : cls R i = cr R i := by unfold cls; rw [rp_rep h hi]
theorem rpL_get {R : Nat → Nat → Prop} : ∀ {n u r : Nat}, (rpL R n)[u]? = some r → r < n ∧ isRp R r ∧ cr R r = u
  | 0, u, r, h => by simp [rpL] at h
  | n + 1, u, r, h => by
    by_cases hn : isRp R n
    · rw [rpL_p hn] at h
      rcases app_get h with ⟨h1, h2⟩ | ⟨h1, h2⟩
      · obtain ⟨k1, k2, k3⟩ := rpL_get h2
        exact ⟨by omega, k2, k3⟩
      · subst h2
        exact ⟨by omega, hn, h1.symm⟩
    · rw [rpL_n hn] at h
      obtain ⟨k1, k2, k3⟩ := rpL_get h
      exact ⟨by omega, k2, k3⟩
theorem rpL_of {R : Nat → Nat → Prop} : ∀ {n r : Nat}, r < n → isRp R r → (rpL R n)[cr R r]? = some r
  | 0, r, h, _ => absurd h (by omega)
  | n + 1, r, h, hr => by
    by_cases e : r = n
    · subst e
      rw [rpL_p hr]
      unfold cr
      simp
    · have := rpL_of (show r < n by omega) hr
      by_cases hn : isRp R n
      · rw [rpL_p hn]; exact pre_get this
      · rw [rpL_n hn]; exact this
/-- finer relations have more classes -/
theorem isRp_fine {R R' : Nat → Nat → Prop} {i : Nat} (hs : ∀ j, j < i → R' j i → R j i) (h : isRp R i) : isRp R' i := fun j hj hR => h j hj (hs j hj hR)
theorem cr_fine {R R' : Nat → Nat → Prop} : ∀ {n : Nat}, (∀ i j, i < n → j < n → R' i j → R i j) → cr R n ≤ cr R' n
  | 0, _ => Nat.le_refl _
  | n + 1, h => by
    have ih := cr_fine (R := R) (R' := R') (n := n) (fun i j hi hj => h i j (by omega) (by omega))
    by_cases hn : isRp R n
    · rw [cr_p hn, cr_p (isRp_fine (fun j hj => h j n (by omega) (by omega)) hn)]; omega
    · have := cr_s R' n
      rw [cr_n hn]; omega
theorem isRp_same {R R' : Nat → Nat → Prop} : ∀ {n : Nat}, (∀ i j, i < n → j < n → R' i j → R i j) → cr R' n = cr R n → ∀ i, i < n → isRp R' i → isRp R i
  | 0, _, _, i, hi, _ => absurd hi (by omega)
  | n + 1, h, e, i, hi, hr => by
    have hsub : ∀ i j, i < n → j < n → R' i j → R i j := fun i j hi hj => h i j (by omega) (by omega)
    have hle := cr_fine hsub
    by_cases hn : isRp R n
    · have hn' := isRp_fine (R' := R') (fun j hj => h j n (by omega) (by omega)) hn
      rw [cr_p hn, cr_p hn'] at e
      by_cases ein : i = n
      · rw [ein]; exact hn
      · exact isRp_same hsub (by omega) i (by omega) hr
    · by_cases hn' : isRp R' n
      · rw [cr_n hn, cr_p hn'] at e; omega
      · rw [cr_n hn, cr_n hn'] at e
        by_cases ein : i = n
        · rw [ein] at hr; exact absurd hr hn'
        · exact isRp_same hsub e i (by omega) hr
theorem fine_same {R R' : Nat → Nat → Prop} (hR : Eqv R) (hR' : Eqv R') {n : Nat} (hs : ∀ i j, i < n → j < n → R' i j → R i j) (e : cr R' n = cr R n) : ∀ i j, i < n → j < n → R i j → R' i j := by
  have key : ∀ i, i < n → rp R' i = rp R i := by
    intro i hi
    obtain ⟨h1, h2, h3⟩ := rp_spec hR' i
    have hr := isRp_same hs e (rp R' i) (by omega) (rp_isRp hR' i)
    have := hs _ _ (by omega) hi h1
    rw [← rp_eq hR this, rp_rep hR hr]
  intro i j hi hj h
  refine rp_of hR' ?_
  rw [key i hi, key j hj, rp_eq hR h]
/-! nodes that no row tells apart -/
def ansN (to : Nat → Nat → Option Nat) (an : Nat → Nat) (i : Nat) : List Nat → Nat
  | [] => an i
  | a :: w => match to i a with
    | none => 8
    | some j => ansN to an j w
def eqN (to : Nat → Nat → Option Nat) (an : Nat → Nat) (K i j : Nat) : Prop := ∀ w : List Nat, (∀ a ∈ w, a < K) → ansN to an i w = ansN to an j w
def opR (R : Nat → Nat → Prop) : Option Nat → Option Nat → Prop
  | none, none => True
  | some x, some y => R x y
  | _, _ => False
def alN (to : Nat → Nat → Option Nat) (an : Nat → Nat) (K : Nat) (R : Nat → Nat → Prop) (i j : Nat) : Prop := an i = an j ∧ ∀ a, a < K → opR R (to i a) (to j a)
theorem eqN_e (to : Nat → Nat → Option Nat) (an : Nat → Nat) (K : Nat) : Eqv (eqN to an K) := ⟨fun _ _ _ => rfl, fun _ _ h w hw => (h w hw).symm, fun _ _ _ h h' w hw => (h w hw).trans (h' w hw)⟩
theorem opR_e {R : Nat → Nat → Prop} (h : Eqv R) : (∀ x, opR R x x) ∧ (∀ x y, opR R x y → opR R y x) ∧ ∀ x y z, opR R x y → opR R y z → opR R x z := by
  refine ⟨fun x => ?_, fun x y => ?_, fun x y z => ?_⟩
  · cases x with
    | none => trivial
    | some x => exact h.1 x
  · cases x with
    | none => cases y with
      | none => exact fun h => h
      | some y => exact fun h => h.elim
    | some x => cases y with
      | none => exact fun h => h.elim
      | some y => exact h.2.1 x y
  · cases x with
    | none => cases y with
      | none => exact fun _ h => h
      | some y => exact fun h => h.elim
    | some x => cases y with
      | none => exact fun h => h.elim
      | some y => cases z with
        | none => exact fun _ h => h.elim
        | some z => exact h.2.2 x y z
theorem alN_e {to : Nat → Nat → Option Nat} {an : Nat → Nat} {K : Nat} {R : Nat → Nat → Prop} (h : Eqv R) : Eqv (alN to an K R) := by
  obtain ⟨o1, o2, o3⟩ := opR_e h
  exact ⟨fun i => ⟨rfl, fun a _ => o1 _⟩, fun i j h => ⟨h.1.symm, fun a ha => o2 _ _ (h.2 a ha)⟩, fun i j k h h' => ⟨h.1.trans h'.1, fun a ha => o3 _ _ _ (h.2 a ha) (h'.2 a ha)⟩⟩
theorem opR_mono {R R' : Nat → Nat → Prop} {n : Nat} (h : ∀ i j, i < n → j < n → R' i j → R i j) {x y : Option Nat} (hx : ∀ i, x = some i → i < n) (hy : ∀ i, y = some i → i < n) (e : opR R' x y) : opR R x y := by
  cases x with
  | none => cases y with
    | none => trivial
    | some y => exact e.elim
  | some x => cases y with
    | none => exact e.elim
    | some y => exact h x y (hx x rfl) (hy y rfl) e
theorem alN_mono {to : Nat → Nat → Option Nat} {an : Nat → Nat} {K n : Nat} (hc : ∀ i a j, i < n → a < K → to i a = some j → j < n) {R R' : Nat → Nat → Prop} (h : ∀ i j, i < n → j < n → R' i j → R i j) : ∀ i j, i < n → j < n → alN to an K R' i j → alN to an K R i j := fun i j hi hj e => ⟨e.1, fun a ha => opR_mono h (fun k hk => hc i a k hi ha hk) (fun k hk => hc j a k hj ha hk) (e.2 a ha)⟩
theorem ansN_c {to : Nat → Nat → Option Nat} {an : Nat → Nat} {i a : Nat} {w : List Nat} : ansN to an i (a :: w) = match to i a with | none => 8 | some j => ansN to an j w := rfl
/-- nodes that are alike stay alike -/
theorem eqN_al {to : Nat → Nat → Option Nat} {an : Nat → Nat} {K n : Nat} (h7 : ∀ i, i < n → an i ≤ 7) (hc : ∀ i a j, i < n → a < K → to i a = some j → j < n) {i j : Nat} (hi : i < n) (hj : j < n) (h : eqN to an K i j) : alN to an K (eqN to an K) i j := by
  refine ⟨h [] (by simp), fun a ha => ?_⟩
  have h1 := h [a] (by simpa using ha)
  rw [ansN_c, ansN_c] at h1
  cases hx : to i a with
  | none => cases hy : to j a with
    | none => trivial
    | some y =>
      rw [hx, hy] at h1
      have := h7 y (hc j a y hj ha hy)
      simp only [ansN] at h1
      omega
  | some x => cases hy : to j a with
    | none =>
      rw [hx, hy] at h1
      have := h7 x (hc i a x hi ha hx)
      simp only [ansN] at h1
      omega
    | some y =>
      intro w hw
      have := h (a :: w) (fun b hb => by
        rcases List.mem_cons.mp hb with h | h
        · rw [h]; exact ha
        · exact hw b h)
      rw [ansN_c, ansN_c, hx, hy] at this
      exact this
/-- and what stays alike is alike -/
theorem al_eqN {to : Nat → Nat → Option Nat} {an : Nat → Nat} {K n : Nat} (hc : ∀ i a j, i < n → a < K → to i a = some j → j < n) {R : Nat → Nat → Prop} (h : ∀ i j, i < n → j < n → R i j → alN to an K R i j) : ∀ (w : List Nat) (i j : Nat), i < n → j < n → R i j → (∀ a ∈ w, a < K) → ansN to an i w = ansN to an j w
  | [], i, j, hi, hj, e, _ => (h i j hi hj e).1
  | a :: w, i, j, hi, hj, e, hw => by
    have ha := hw a (by simp)
    have h1 := (h i j hi hj e).2 a ha
    rw [ansN_c, ansN_c]
    cases hx : to i a with
    | none => cases hy : to j a with
      | none => rfl
      | some y => rw [hx, hy] at h1; exact h1.elim
    | some x => cases hy : to j a with
      | none => rw [hx, hy] at h1; exact h1.elim
      | some y =>
        rw [hx, hy] at h1
        exact al_eqN hc h w x y (hc i a x hi ha hx) (hc j a y hj ha hy) h1 (fun b hb => hw b (by simp [hb]))
