/-! charts with the first words of their nodes -/
abbrev KW : Type := Nat × List Nat
def pushW (L : List KW) (k : Nat) (w : List Nat) : List KW := if k ∈ L.map (fun x => x.1) then L else L ++ [(k, w)]
def rowW (f : Nat → Option Nat) (wx : List Nat) : Nat → List KW → List KW
  | 0, L => L
  | a + 1, L => match f a with
    | none => rowW f wx a L
    | some k => pushW (rowW f wx a L) k (wx ++ [a])
def bfW (nx : Nat → Nat → Option Nat) (K k0 : Nat) : Nat → List KW
  | 0 => [(k0, [])]
  | i + 1 => match (bfW nx K k0 i)[i]? with
    | none => bfW nx K k0 i
    | some x => rowW (nx x.1) x.2 K (bfW nx K k0 i)
theorem pushW_k (L : List KW) (k : Nat) (w : List Nat) : (pushW L k w).map (fun x => x.1) = pushL (L.map (fun x => x.1)) k := by
  unfold pushW pushL
  split <;> simp
theorem rowW_k (f : Nat → Option Nat) (wx : List Nat) : ∀ a L, (rowW f wx a L).map (fun x => x.1) = rowL f a (L.map (fun x => x.1))
  | 0, L => rfl
  | a + 1, L => by
    have ih := rowW_k f wx a L
    unfold rowW rowL
    cases f a with
    | none => exact ih
    | some k => show (pushW _ _ _).map _ = pushL _ _; rw [pushW_k, ih]
theorem bfW_k (nx : Nat → Nat → Option Nat) (K k0 : Nat) : ∀ i, (bfW nx K k0 i).map (fun x => x.1) = bfB nx K k0 i
  | 0 => rfl
  | i + 1 => by
    have ih := bfW_k nx K k0 i
    unfold bfW bfB
    rw [← ih, List.getElem?_map]
    cases (bfW nx K k0 i)[i]? with
    | none => rfl
    | some x => exact rowW_k _ _ _ _
theorem bfW_l (nx : Nat → Nat → Option Nat) (K k0 i : Nat) : (bfW nx K k0 i).length = (bfB nx K k0 i).length := by rw [← bfW_k]; simp
theorem bfW_step {nx : Nat → Nat → Option Nat} {K k0 i : Nat} {x : KW} (h : (bfW nx K k0 i)[i]? = some x) : bfW nx K k0 (i + 1) = rowW (nx x.1) x.2 K (bfW nx K k0 i) := by
  conv => lhs; unfold bfW
  rw [h]
theorem rowW_p (f : Nat → Option Nat) (wx : List Nat) {a b : Nat} (h : a ≤ b) (L : List KW) : ∃ E, rowW f wx b L = rowW f wx a L ++ E := by
  induction b with
  | zero => have : a = 0 := by omega
            subst this; exact ⟨[], by simp⟩
  | succ b ih =>
    by_cases e : a = b + 1
    · subst e; exact ⟨[], by simp⟩
    · obtain ⟨E, hE⟩ := ih (by omega)
      have : ∃ E2, rowW f wx (b + 1) L = rowW f wx b L ++ E2 := by
        conv => arg 1; ext E2; lhs; unfold rowW
        cases f b with
        | none => exact ⟨[], by simp⟩
        | some k =>
          show ∃ E2, pushW _ _ _ = _
          unfold pushW
          split
          · exact ⟨[], by simp⟩
          · exact ⟨_, rfl⟩
      obtain ⟨E2, h2⟩ := this
      exact ⟨E ++ E2, by rw [h2, hE, List.append_assoc]⟩
theorem bfW_cl {nx : Nat → Nat → Option Nat} {K k0 i : Nat} (h : (bfB nx K k0 i).length ≤ i) : ∀ j, i ≤ j → bfW nx K k0 j = bfW nx K k0 i := by
  intro j hj
  induction j with
  | zero => have : i = 0 := by omega
            rw [this]
  | succ j ih =>
    by_cases e : i = j + 1
    · rw [e]
    · have := ih (by omega)
      conv => lhs; unfold bfW
      rw [this, List.getElem?_eq_none (by rw [bfW_l]; omega)]
theorem bfW_mono (nx : Nat → Nat → Option Nat) (K k0 : Nat) {i j : Nat} (h : i ≤ j) : ∃ E, bfW nx K k0 j = bfW nx K k0 i ++ E := by
  induction j with
  | zero => have : i = 0 := by omega
            subst this; exact ⟨[], by simp⟩
  | succ j ih =>
    by_cases e : i = j + 1
    · subst e; exact ⟨[], by simp⟩
    · obtain ⟨E, hE⟩ := ih (by omega)
      have : ∃ E2, bfW nx K k0 (j + 1) = bfW nx K k0 j ++ E2 := by
        conv => arg 1; ext E2; lhs; unfold bfW
        cases (bfW nx K k0 j)[j]? with
        | none => exact ⟨[], by simp⟩
        | some x => exact rowW_p (nx x.1) x.2 (Nat.zero_le K) (bfW nx K k0 j)
      obtain ⟨E2, h2⟩ := this
      exact ⟨E ++ E2, by rw [h2, hE, List.append_assoc]⟩
/-- signs that lead nowhere don't matter -/
theorem rowW_K {f : Nat → Option Nat} {wx : List Nat} {K m : Nat} (hf : ∀ a, K ≤ a → f a = none) (hK : K ≤ m) (L : List KW) : rowW f wx m L = rowW f wx K L := by
  induction m with
  | zero => have : K = 0 := by omega
            rw [this]
  | succ m ih =>
    by_cases e : K = m + 1
    · rw [e]
    · conv => lhs; unfold rowW
      rw [hf m (by omega)]
      exact ih (by omega)
theorem bfW_K {nx : Nat → Nat → Option Nat} {K m k0 : Nat} (hf : ∀ x a, K ≤ a → nx x a = none) (hK : K ≤ m) : ∀ i, bfW nx m k0 i = bfW nx K k0 i
  | 0 => rfl
  | i + 1 => by
    unfold bfW
    rw [bfW_K hf hK i]
    cases (bfW nx K k0 i)[i]? with
    | none => rfl
    | some x => exact rowW_K (hf x.1) hK _
theorem nxM_K {A : AM} (hv : VA A) (x a : Nat) (ha : A.2.1 ≤ a) : nxM A x a = none := by
  unfold nxM
  rw [dl_k hv ha]
  rfl
/-! the reference's pairs -/
/-- what scratch leaves alone -/
def MSc (I I' : MI) (J J' : MJ) : Prop := (∀ k, k ∈ [13, 49, 50, 53, 54, 56, 59] → I' 177 k = I 177 k) ∧ (∀ i, ((178 ≤ i ∧ i ≤ 183) ∨ i = 218) → I' i = I i) ∧ (∀ q, q < 18 → MEq I I' q) ∧ (J' 177 55 = J 177 55 ∧ J' 180 = J 180 ∧ J' 215 = J 215 ∧ J' 216 = J 216 ∧ J' 217 = J 217) ∧ FrM I I' J J'
theorem MEq.rf {I : MI} {q : Nat} : MEq I I q := MEq.of (fun _ _ _ => rfl)
theorem MEq.tr {I I' I'' : MI} {q : Nat} (h : MEq I I' q) (h' : MEq I' I'' q) : MEq I I'' q := ⟨h'.1.trans h.1, h'.2.1.trans h.2.1, h'.2.2.1.trans h.2.2.1, fun s hs => ⟨(h'.2.2.2.1 s hs).1.trans (h.2.2.2.1 s hs).1, (h'.2.2.2.1 s hs).2.trans (h.2.2.2.1 s hs).2⟩, fun s a hs ha => ⟨(h'.2.2.2.2 s a hs ha).1.trans (h.2.2.2.2 s a hs ha).1, (h'.2.2.2.2 s a hs ha).2.trans (h.2.2.2.2 s a hs ha).2⟩⟩
theorem MSc.rf {I : MI} {J : MJ} : MSc I I J J := ⟨fun _ _ => rfl, fun _ _ => rfl, fun _ _ => MEq.rf, ⟨rfl, rfl, rfl, rfl, rfl⟩, FrM.rf⟩
theorem MSc.tr {I I' I'' : MI} {J J' J'' : MJ} (h : MSc I I' J J') (h' : MSc I' I'' J' J'') : MSc I I'' J J'' := ⟨fun k hk => (h'.1 k hk).trans (h.1 k hk), fun i hi => (h'.2.1 i hi).trans (h.2.1 i hi), fun q hq => (h.2.2.1 q hq).tr (h'.2.2.1 q hq), ⟨h'.2.2.2.1.1.trans h.2.2.2.1.1, h'.2.2.2.1.2.1.trans h.2.2.2.1.2.1, h'.2.2.2.1.2.2.1.trans h.2.2.2.1.2.2.1, h'.2.2.2.1.2.2.2.1.trans h.2.2.2.1.2.2.2.1, h'.2.2.2.1.2.2.2.2.trans h.2.2.2.1.2.2.2.2⟩, h.2.2.2.2.tr h'.2.2.2.2⟩
theorem MSc.abs {I I' : MI} {J J' : MJ} {σ : SG} (h : MSc I I' J J') (hA : AbsM I J σ) : AbsM I' J' σ := hA.scr h.1 h.2.1 h.2.2.1 h.2.2.2.1
/-- the pairs' own scratch -/
def PrF (I I' : MI) (J J' : MJ) : Prop := (∀ i, i ≠ 177 → i ≠ 191 → i ≠ 192 → i ≠ 194 → I' i = I i) ∧ (∀ k, k ≠ 14 → k ≠ 15 → k ≠ 16 → I' 177 k = I 177 k) ∧ ∀ i, i ≠ 193 → J' i = J i
theorem PrF.rf {I : MI} {J : MJ} : PrF I I J J := ⟨fun _ _ _ _ _ => rfl, fun _ _ _ _ => rfl, fun _ _ => rfl⟩
theorem PrF.tr {I I' I'' : MI} {J J' J'' : MJ} (h : PrF I I' J J') (h' : PrF I' I'' J' J'') : PrF I I'' J J'' := ⟨fun i a b c d => (h'.1 i a b c d).trans (h.1 i a b c d), fun k a b c => (h'.2.1 k a b c).trans (h.2.1 k a b c), fun i a => (h'.2.2 i a).trans (h.2.2 i a)⟩
theorem PrF.ms {I I' : MI} {J J' : MJ} (h : PrF I I' J J') : MSc I I' J J' := ⟨fun k hk => h.2.1 k (by intro e; subst e; revert hk; decide) (by intro e; subst e; revert hk; decide) (by intro e; subst e; revert hk; decide), fun i hi => h.1 i (by omega) (by omega) (by omega) (by omega), fun q _ => MEq.of (fun i a b => h.1 i (by omega) (by omega) (by omega) (by omega)), ⟨by rw [h.2.2 177 (by decide)], h.2.2 180 (by decide), h.2.2 215 (by decide), h.2.2 216 (by decide), h.2.2 217 (by decide)⟩, ⟨fun i hi => h.1 i (by omega) (by omega) (by omega) (by omega), fun i hi => h.2.2 i (by omega)⟩⟩
theorem PrF.sc {I I' : MI} {J : MJ} (h : Sc I I') : PrF I I' J J := ⟨fun i a _ _ _ => h.1 i a, fun k a b _ => h.2 k a b, fun _ _ => rfl⟩
theorem PrF.rep {I I' : MI} {J J' : MJ} {m : Nat} {A : AM} (h : PrF I I' J J') (hA : RepM I m A) : RepM I' m A := by
  unfold RepM RowM at *
  rw [h.1 184 (by decide) (by decide) (by decide) (by decide), h.1 185 (by decide) (by decide) (by decide) (by decide), h.1 186 (by decide) (by decide) (by decide) (by decide), h.1 187 (by decide) (by decide) (by decide) (by decide), h.1 188 (by decide) (by decide) (by decide) (by decide), h.1 189 (by decide) (by decide) (by decide) (by decide), h.1 190 (by decide) (by decide) (by decide) (by decide)]
  exact hA
def PrM (I : MI) (J : MJ) (L : List KW) : Prop := I 177 16 = nI L.length ∧ ∀ (i : Nat) (x : KW), L[i]? = some x → I 191 i = nI (x.1 / 4) ∧ I 192 i = nI (x.1 % 4) ∧ J 193 i = lN (num x.2)
def PrT (I : MI) (nx : Nat → Nat → Option Nat) (L : List KW) (n : Nat) : Prop := ∀ (i : Nat) (x : KW), i < n → L[i]? = some x → ∀ a, a < 4 → (nx x.1 a = none → I 194 (4 * i + a) = -1) ∧ ∀ k, nx x.1 a = some k → ∃ (j : Nat) (y : KW), L[j]? = some y ∧ y.1 = k ∧ I 194 (4 * i + a) = nI j
theorem m_findPair {L : List KW} {k : Nat} {I : MI} {J : MJ} {Q : Int32 → MI → MJ → Prop} (hP : PrM I J L) (hl : L.length ≤ 57) (h31 : ∀ x ∈ L, x.1 < 2 ^ 31) (hk : k < 2 ^ 31) (hnd : (L.map (fun x => x.1)).Nodup) (q1 : ∀ (j : Nat) (y : KW), L[j]? = some y → y.1 = k → Q (nI j) I J) (q0 : k ∉ L.map (fun x => x.1) → Q (-1) I J) : f_Model_findPair (nI (k / 4)) (nI (k % 4)) I J Q := by
  unfold f_Model_findPair
  refine lp2 (fun f (fd : Option Nat) (i : Nat) => f_Model_findPair_L5 (nI (k / 4)) (nI (k % 4)) _ f (enO fd) (nI i) I J) (fun fd i => i ≤ L.length ∧ (fd = none → ∀ (j : Nat) (y : KW), j < i → L[j]? = some y → y.1 ≠ k) ∧ ∀ j, fd = some j → ∃ y : KW, L[j]? = some y ∧ y.1 = k) (fun _ i => L.length - i) ?_ none 0 ⟨Nat.zero_le _, (fun _ j y hj => absurd hj (Nat.not_lt_zero _)), (fun j hj => by cases hj)⟩
  rintro f fd i ⟨b1, b2, b3⟩ ih
  unfold f_Model_findPair_L5
  rw [hP.1]
  by_cases ei : i = L.length
  · rw [if_pos (show nI L.length ≤ nI i by rw [ei, leNN (by omega) (by omega)]; omega)]
    cases fd with
    | none =>
      refine q0 (fun hin => ?_)
      obtain ⟨y, hy, e⟩ := List.mem_map.mp hin
      obtain ⟨j, hj⟩ := List.mem_iff_getElem?.mp hy
      exact b2 rfl j y (by have := (List.getElem?_eq_some_iff.mp hj).1; omega) hj e
    | some j =>
      obtain ⟨y, hy, e⟩ := b3 j rfl
      exact q1 j y hy e
  · have hg : L[i]? = some (L[i]'(by omega)) := List.getElem?_eq_getElem (by omega)
    generalize (L[i]'(by omega)) = x at hg
    obtain ⟨p1, p2, p3⟩ := hP.2 i x hg
    have hx31 := h31 x (List.mem_of_getElem? hg)
    rw [if_neg (show ¬ nI L.length ≤ nI i by rw [leNN (by omega) (by omega)]; omega), vpN (by omega), nI_clamp (by omega), p1, p2]
    refine ⟨by omega, ?_⟩
    unfold f_Model_findPair_b41 f_Model_findPair_b42
    rw [nI_1, forall_eq, forall_eq]
    have skip : x.1 ≠ k → f_Model_findPair_L5 (nI (k / 4)) (nI (k % 4)) (fun (z49_x3 : Int32) (I : MI) (J : MJ) => Q z49_x3 I J) f (enO fd) (nI (i + 1)) I J := fun hne => by
      refine ih fd (i + 1) ⟨by omega, fun hf j y hj hy => ?_, b3⟩ (by omega)
      by_cases hji : j = i
      · subst hji; rw [hg] at hy; cases hy; exact hne
      · exact b2 hf j y (by omega) hy
    by_cases e4 : x.1 / 4 = k / 4
    · rw [if_pos (by rw [e4])]
      refine ⟨by omega, ?_⟩
      by_cases e5 : x.1 % 4 = k % 4
      · rw [if_pos (by rw [e5])]
        have exk : x.1 = k := by omega
        exact ih (some i) (i + 1) ⟨by omega, (fun hh => by cases hh), fun j hj => by cases hj; exact ⟨x, hg, exk⟩⟩ (by omega)
      · rw [if_neg (by rw [eqNN (by omega) (by omega)]; exact e5)]
        exact skip (by omega)
    · rw [if_neg (by rw [eqNN (by omega) (by omega)]; exact e4)]
      exact skip (by omega)
