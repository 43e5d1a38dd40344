/-! join: sets of states as bits, and the walk -/
theorem jb_s : ∀ s, s < 31 → ((nI s &&& 31).toBitVec.smod 32).toNat = s := by decide +kernel
theorem jb_bit {x s : Nat} (hx : x < 2 ^ 31) (hs : s < 31) : (nI x >>> (nI s &&& 31)) &&& 1 = if x.testBit s then 1 else 0 := by
  have h2 : x / 2 ^ s ≤ x := Nat.div_le_self _ _
  rw [pk_shrN hx _ s (jb_s s hs), pk_andN (by omega) 1 (by decide), Nat.testBit_eq_decide_div_mod_eq]
  have : x / 2 ^ s % 2 ^ 1 = 0 ∨ x / 2 ^ s % 2 ^ 1 = 1 := by omega
  rcases this with h | h
  · rw [h, if_neg (by simp at h; simp [h])]; rfl
  · rw [h, if_pos (by simp at h; simp [h])]; rfl
theorem jb_or (x y : Nat) : nI x ||| nI y = nI (x ||| y) := by
  apply Int32.toBitVec_inj.mp
  show BitVec.ofNat 32 x ||| BitVec.ofNat 32 y = BitVec.ofNat 32 (x ||| y)
  rw [BitVec.ofNat_or]
theorem jb_and (x y : Nat) : nI x &&& nI y = nI (x &&& y) := by
  apply Int32.toBitVec_inj.mp
  show BitVec.ofNat 32 x &&& BitVec.ofNat 32 y = BitVec.ofNat 32 (x &&& y)
  rw [BitVec.ofNat_and]
theorem jb_shl {t : Nat} (ht : t < 31) : (1 : Int32) <<< (nI t &&& 31) = nI (2 ^ t) := by
  have h : 2 ^ t < 2 ^ 31 := Nat.pow_lt_pow_right (by decide) ht
  rw [l1, pk_shlN _ t (jb_s t ht) (by omega), Nat.one_mul]
theorem jb_pair {f b : Nat} (hf : f ≤ 14) (hb : b < 16384) : (nI f <<< ((14 : Int32) &&& 31)) ||| nI b = nI (f * 16384 + b) := by
  rw [pk_shlN _ 14 (by decide) (by omega), jb_or]
  congr 1
  have := Nat.two_pow_add_eq_or_of_lt (i := 14) (b := b) hb f
  rw [Nat.mul_comm f]
  exact this.symm
theorem jb_hi {k : Nat} (hk : k < 2 ^ 31) : nI k >>> ((14 : Int32) &&& 31) = nI (k / 16384) := by rw [pk_shrN hk _ 14 (by decide)]
theorem jb_lo {k : Nat} (hk : k < 2 ^ 31) : nI k &&& 16383 = nI (k % 16384) := by rw [pk_andN (by omega) 14 (by decide)]
theorem p14 {t : Nat} (h : t < 14) : 2 ^ t < 16384 := Nat.pow_lt_pow_right (a := 2) (by decide) h
theorem or14 {x y : Nat} (hx : x < 16384) (hy : y < 16384) : x ||| y < 16384 := Nat.or_lt_two_pow (n := 14) hx hy
def ld (A : AM) (s a : Nat) : Option Nat := (tkO A s a).bind (fun x => x.1)
def yS (A : AM) : Nat → Nat
  | 0 => 0
  | n + 1 => if anS A n = 1 then yS A n ||| 2 ^ n else yS A n
def mvS (A : AM) (set a : Nat) : Nat → Nat
  | 0 => 0
  | s + 1 => if set.testBit s then (match ld A s a with | none => mvS A set a s | some t => mvS A set a s ||| 2 ^ t) else mvS A set a s
def inS (A : AM) (set a : Nat) : Nat → Nat
  | 0 => 0
  | s + 1 => match ld A s a with
    | none => inS A set a s
    | some t => if set.testBit t then inS A set a s ||| 2 ^ s else inS A set a s
def mvF (A : AM) (f a : Nat) : Nat := (ld A f a).getD 14
def yes (A : AM) : Nat := yS A (aN A)
theorem ld_lt {A : AM} (hv : VA A) {s a t : Nat} (h : ld A s a = some t) : t < aN A ∧ s < aN A ∧ a < A.2.1 := by
  unfold ld at h
  cases hx : tkO A s a with
  | none => rw [hx] at h; cases h
  | some x =>
    rw [hx] at h
    obtain ⟨k1, k2, k3, k4, k5⟩ := tkO_v hv hx
    exact ⟨k1 t h, k5, k4⟩
theorem ld_no {A : AM} {s a : Nat} (h : aN A ≤ s) : ld A s a = none := by
  unfold ld tkO
  rw [List.getElem?_eq_none (show A.2.2.length ≤ s from h)]
  rfl
theorem yS_lt {A : AM} : ∀ n, n ≤ 14 → yS A n < 16384
  | 0, _ => by show 0 < 16384; decide
  | n + 1, h => by
    have ih := yS_lt (A := A) n (by omega)
    unfold yS
    split
    · exact or14 ih (p14 (by omega))
    · exact ih
theorem yS_bit {A : AM} : ∀ n s, (yS A n).testBit s = (decide (s < n) && decide (anS A s = 1))
  | 0, s => by simp [yS]
  | n + 1, s => by
    have ih := yS_bit (A := A) n s
    unfold yS
    by_cases h : anS A n = 1
    · rw [if_pos h, Nat.testBit_or, ih, Nat.testBit_two_pow]
      by_cases e : n = s
      · subst e; simp [h]
      · by_cases hs : s < n
        · simp [hs, show s < n + 1 by omega, e]
        · simp [hs, show ¬ s < n + 1 by omega, e]
    · rw [if_neg h, ih]
      by_cases e : s = n
      · subst e; simp [h]
      · by_cases hs : s < n
        · simp [hs, show s < n + 1 by omega]
        · simp [hs, show ¬ s < n + 1 by omega]
theorem mvS_lt {A : AM} (hv : VA A) (set a : Nat) : ∀ n, mvS A set a n < 16384
  | 0 => by show 0 < 16384; decide
  | n + 1 => by
    have ih := mvS_lt hv set a n
    unfold mvS
    split
    · cases h : ld A n a with
      | none => exact ih
      | some t =>
        have := (ld_lt hv h).1
        have := hv.2.2.2.2.1
        exact or14 ih (p14 (by omega))
    · exact ih
theorem inS_lt {A : AM} (set a : Nat) : ∀ n, n ≤ 14 → inS A set a n < 16384
  | 0, _ => by show 0 < 16384; decide
  | n + 1, hn => by
    have ih := inS_lt (A := A) set a n (by omega)
    unfold inS
    cases h : ld A n a with
    | none => exact ih
    | some t =>
      show (if set.testBit t then inS A set a n ||| 2 ^ n else inS A set a n) < 16384
      split
      · exact or14 ih (p14 (by omega))
      · exact ih
theorem mvF_le {A : AM} (hv : VA A) (f a : Nat) : mvF A f a ≤ 14 ∧ (mvF A f a < 14 → mvF A f a < aN A) := by
  unfold mvF
  cases h : ld A f a with
  | none => exact ⟨Nat.le_refl _, fun h => absurd h (by simp)⟩
  | some t =>
    have h1 := (ld_lt hv h).1
    have h2 := hv.2.2.2.2.1
    show t ≤ 14 ∧ (t < 14 → t < aN A)
    exact ⟨by omega, fun _ => h1⟩
theorem yes_lt {A : AM} (hv : VA A) : yes A < 16384 := yS_lt _ hv.2.2.2.2.1
theorem yes_bit {A : AM} (s : Nat) : (yes A).testBit s = true ↔ s < aN A ∧ anS A s = 1 := by
  unfold yes
  rw [yS_bit]
  simp
theorem any_yes {A : AM} (set : Nat) : set &&& yes A ≠ 0 ↔ ∃ s, s < aN A ∧ set.testBit s = true ∧ anS A s = 1 := by
  constructor
  · intro h
    obtain ⟨i, hi⟩ := Nat.exists_testBit_of_ne_zero h
    rw [Nat.testBit_and, Bool.and_eq_true, yes_bit] at hi
    exact ⟨i, hi.2.1, hi.1, hi.2.2⟩
  · rintro ⟨s, h1, h2, h3⟩ h
    have : (set &&& yes A).testBit s = true := by rw [Nat.testBit_and, Bool.and_eq_true, yes_bit]; exact ⟨h2, h1, h3⟩
    rw [h] at this
    simp at this
/-- the walk's keys: 16384 times the first part, and the second one -/
def w2 (A : AM) (f b : Nat) : Nat := f * 16384 + (if (yes A).testBit f then b ||| 1 else b)
def w1 (A : AM) (s : Nat) : Nat := if s &&& yes A = 0 then s else s ||| 1
def nxJ (how : Nat) (A B : AM) (k a : Nat) : Nat :=
  if how = 3 then w2 A (mvF A (k / 16384) a) (mvS B (k % 16384) a (aN B))
  else if how = 4 then inS A (k % 16384) a (aN A)
  else if how = 5 then w1 A (mvS A (if k = 16384 then 1 else k % 16384) a (aN A))
  else mvF A (k / 16384) a * 16384 + mvF B (k % 16384) a
def k0J (how : Nat) (A : AM) : Nat := if how = 3 then w2 A 0 0 else if how = 4 then yes A else if how = 5 then 16384 else 0
def blJ (how : Nat) (A B : AM) (k : Nat) : Prop :=
  if how = 0 then (yes A).testBit (k / 16384) = true ∧ (yes B).testBit (k % 16384) = true
  else if how = 1 then (yes A).testBit (k / 16384) = true ∨ (yes B).testBit (k % 16384) = true
  else if how = 2 then ¬ (yes A).testBit (k / 16384) = true
  else if how = 3 then (k % 16384) &&& yes B ≠ 0
  else if how = 4 then (k % 16384).testBit 0 = true
  else k = 16384 ∨ (k % 16384) &&& yes A ≠ 0
noncomputable section
def anJ (how : Nat) (A B : AM) (k : Nat) : Nat := by classical exact if blJ how A B k then 1 else 0
end
def okF (A : AM) (f : Nat) : Prop := f ≤ 14 ∧ (f < 14 → f < aN A)
def PJ (how : Nat) (A B : AM) (k : Nat) : Prop :=
  if how = 3 then okF A (k / 16384)
  else if how = 4 then k < 16384
  else if how = 5 then k = 16384 ∨ k < 16384
  else okF A (k / 16384) ∧ okF B (k % 16384) ∧ (how = 2 → k / 16384 = k % 16384)
theorem PJ_31 {how : Nat} {A B : AM} {k : Nat} (h : PJ how A B k) : k < 2 ^ 31 := by
  unfold PJ at h
  split at h
  · have := h.1; omega
  · split at h
    · omega
    · split at h
      · omega
      · have := h.1.1; omega
theorem w2_d {A : AM} {f b : Nat} (hb : b < 16384) : w2 A f b / 16384 = f ∧ w2 A f b % 16384 = (if (yes A).testBit f then b ||| 1 else b) ∧ (if (yes A).testBit f then b ||| 1 else b) < 16384 := by
  have h : (if (yes A).testBit f then b ||| 1 else b) < 16384 := by
    split
    · exact or14 hb (by decide)
    · exact hb
  unfold w2
  generalize (if (yes A).testBit f then b ||| 1 else b) = c at h
  omega
theorem okF_0 {A : AM} (hv : VA A) : okF A 0 := ⟨by decide, fun _ => hv.n1⟩
theorem PJ_0 {how : Nat} {A B : AM} (hv : VA A) (hw : VA B) : PJ how A B (k0J how A) := by
  unfold PJ k0J
  split
  · rw [(w2_d (by decide)).1]; exact okF_0 hv
  · split
    · exact yes_lt hv
    · split
      · exact Or.inl rfl
      · exact ⟨okF_0 hv, okF_0 hw, fun _ => rfl⟩
theorem PJ_nx {how : Nat} {A B : AM} (hv : VA A) (hw : VA B) (h2 : how = 2 → B = A) {k a : Nat} (h : PJ how A B k) : PJ how A B (nxJ how A B k a) := by
  unfold PJ nxJ at *
  by_cases h3 : how = 3
  · simp only [if_pos h3] at h ⊢
    rw [(w2_d (mvS_lt hw _ _ _)).1]
    exact mvF_le hv _ _
  · simp only [if_neg h3] at h ⊢
    by_cases h4 : how = 4
    · simp only [if_pos h4] at h ⊢
      exact inS_lt _ _ _ hv.2.2.2.2.1
    · simp only [if_neg h4] at h ⊢
      by_cases h5 : how = 5
      · simp only [if_pos h5] at h ⊢
        right
        have hm := mvS_lt hv (if k = 16384 then 1 else k % 16384) a (aN A)
        generalize mvS A (if k = 16384 then 1 else k % 16384) a (aN A) = s at hm
        unfold w1
        split
        · exact hm
        · exact or14 hm (by decide)
      · simp only [if_neg h5] at h ⊢
        have a1 := mvF_le hv (k / 16384) a
        have a2 := mvF_le hw (k % 16384) a
        have e1 : (mvF A (k / 16384) a * 16384 + mvF B (k % 16384) a) / 16384 = mvF A (k / 16384) a := by omega
        have e2 : (mvF A (k / 16384) a * 16384 + mvF B (k % 16384) a) % 16384 = mvF B (k % 16384) a := by omega
        rw [e1, e2]
        refine ⟨a1, a2, fun e => ?_⟩
        rw [h2 e, h.2.2 e]
theorem anJ_1 (how : Nat) (A B : AM) (k : Nat) : anJ how A B k ≤ 1 := by
  unfold anJ
  split <;> decide
