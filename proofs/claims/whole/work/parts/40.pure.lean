/-! Pure part: numbers, words, abstract machines. -/
theorem l0 : (0 : Int32) = nI 0 := rfl
theorem l1 : (1 : Int32) = nI 1 := rfl
theorem l2 : (2 : Int32) = nI 2 := rfl
theorem l3 : (3 : Int32) = nI 3 := rfl
theorem l4 : (4 : Int32) = nI 4 := rfl
theorem l5 : (5 : Int32) = nI 5 := rfl
theorem l6 : (6 : Int32) = nI 6 := rfl
theorem l7 : (7 : Int32) = nI 7 := rfl
theorem l8 : (8 : Int32) = nI 8 := rfl
theorem l14 : (14 : Int32) = nI 14 := rfl
theorem l16 : (16 : Int32) = nI 16 := rfl
theorem l30 : (30 : Int32) = nI 30 := rfl
theorem lm1 {n : Nat} (h : n < 2 ^ 31) : ¬ nI n = -1 := fun e => by
  have := congrArg Int32.toInt e
  rw [nI_toInt h] at this
  simp at this
  try omega
theorem lm1' {n : Nat} (h : n < 2 ^ 31) : ¬ -1 = nI n := fun e => lm1 h e.symm
theorem m1_lt {n : Nat} (h : n < 2 ^ 31) : (-1 : Int32) < nI n := by
  rw [Int32.lt_iff_toInt_lt, nI_toInt h]
  simp
  try omega
theorem m1_le {n : Nat} (h : n < 2 ^ 31) : (-1 : Int32) ≤ nI n := by
  rw [Int32.le_iff_toInt_le, nI_toInt h]
  simp
  try omega
theorem nlt_m1 {n : Nat} (h : n < 2 ^ 31) : ¬ nI n < (-1 : Int32) := by
  rw [Int32.lt_iff_toInt_lt, nI_toInt h]
  simp
  try omega
theorem nle_m1 {n : Nat} (h : n < 2 ^ 31) : ¬ nI n ≤ (-1 : Int32) := by
  rw [Int32.le_iff_toInt_le, nI_toInt h]
  simp
  try omega
theorem vpN {n N : Nat} (h : n < 2 ^ 31) : vp_in (nI n) N ↔ n < N := by
  rw [vp_in_iff, nI_toInt h]
  omega
theorem nI0_lt {n : Nat} (h : n < 2 ^ 31) : ¬ nI n < 0 := nI_pos h
theorem nI0_le {n : Nat} (h : n < 2 ^ 31) : (0 : Int32) ≤ nI n := nI_pos' h
theorem nI0_eq {n : Nat} (h : n < 2 ^ 31) : nI n = 0 ↔ n = 0 := by rw [l0]; exact nI_eq h (by decide)
theorem l9 : (9 : Int32) = nI 9 := rfl
theorem l10 : (10 : Int32) = nI 10 := rfl
theorem l11 : (11 : Int32) = nI 11 := rfl
theorem l12 : (12 : Int32) = nI 12 := rfl
theorem l13 : (13 : Int32) = nI 13 := rfl
theorem l15 : (15 : Int32) = nI 15 := rfl
theorem l17 : (17 : Int32) = nI 17 := rfl
theorem l18 : (18 : Int32) = nI 18 := rfl
theorem l19 : (19 : Int32) = nI 19 := rfl
theorem l20 : (20 : Int32) = nI 20 := rfl
theorem l31 : (31 : Int32) = nI 31 := rfl
theorem l56 : (56 : Int32) = nI 56 := rfl
theorem l63 : (63 : Int32) = nI 63 := rfl
theorem l64 : (64 : Int32) = nI 64 := rfl
theorem l128 : (128 : Int32) = nI 128 := rfl
theorem l200 : (200 : Int32) = nI 200 := rfl
theorem l225 : (225 : Int32) = nI 225 := rfl
theorem l255 : (255 : Int32) = nI 255 := rfl
theorem l256 : (256 : Int32) = nI 256 := rfl
theorem l300 : (300 : Int32) = nI 300 := rfl
theorem l512 : (512 : Int32) = nI 512 := rfl
theorem ltNN {a b : Nat} (ha : a < 2 ^ 31) (hb : b < 2 ^ 31) : (nI a < nI b) = (a < b) := propext (nI_ltI ha hb)
theorem leNN {a b : Nat} (ha : a < 2 ^ 31) (hb : b < 2 ^ 31) : (nI a ≤ nI b) = (a ≤ b) := propext (nI_leI ha hb)
theorem eqNN {a b : Nat} (ha : a < 2 ^ 31) (hb : b < 2 ^ 31) : (nI a = nI b) = (a = b) := propext (nI_eq ha hb)
theorem eqm1 {n : Nat} (h : n < 2 ^ 31) : (nI n = -nI 1) = False := eq_false (lm1 h)
theorem eqm1' {n : Nat} (h : n < 2 ^ 31) : (-nI 1 = nI n) = False := eq_false (lm1' h)
theorem ltm1 {n : Nat} (h : n < 2 ^ 31) : (nI n < -nI 1) = False := eq_false (nlt_m1 h)
theorem lem1 {n : Nat} (h : n < 2 ^ 31) : (nI n ≤ -nI 1) = False := eq_false (nle_m1 h)
theorem m1lt {n : Nat} (h : n < 2 ^ 31) : (-nI 1 < nI n) = True := eq_true (m1_lt h)
theorem m1le {n : Nat} (h : n < 2 ^ 31) : (-nI 1 ≤ nI n) = True := eq_true (m1_le h)
/-- a place, or none -/
theorem in_cases (x : Int32) (N : Nat) (hN : N < 2 ^ 31) : (∃ p : Nat, p < N ∧ x = nI p) ∨ x < 0 ∨ nI N ≤ x := by
  rcases pk_ix x hN with h | h | h
  · exact Or.inr (Or.inl h)
  · exact Or.inr (Or.inr h)
  · exact Or.inl h
theorem sI_at {I : MI} {o i : Nat} {f : Nat → Int32} : sI I o f i = if i = o then f else I i := rfl
theorem sJ_at {J : MJ} {o i : Nat} {f : Nat → Int64} : sJ J o f i = if i = o then f else J i := rfl
theorem upd_at {f : Nat → Int32} {k j : Nat} {x : Int32} : upd f k x j = if j = k then x else f j := rfl
theorem updL_at {f : Nat → Int64} {k j : Nat} {x : Int64} : vp_updL f k x j = if j = k then x else f j := rfl
theorem nar0 : vp_nar .boolean 0 = 0 := by decide
theorem nar1 : vp_nar .boolean 1 = 1 := by decide
/-! words -/
def num (w : List Nat) : Nat := w.foldl (fun n a => 4 * n + a) 1
/-! abstract machines: kind, k, for each state its row (if it is there): takes and acts; and its answer -/
abbrev ROW : Type := List (Option Nat × Nat)
abbrev AM : Type := Nat × Nat × List (Option ROW × Nat)
def aN (A : AM) : Nat := A.2.2.length
def enO : Option Nat → Int32
  | none => -1
  | some t => nI t
def VR (n k : Nat) (kd : Nat) (q : Option ROW × Nat) : Prop := q.2 ≤ (if kd = 0 then 1 else 7) ∧ (kd < 2 → ∃ r, q.1 = some r ∧ r.length = k ∧ ∀ x ∈ r, x.1 ≠ none) ∧ ∀ r, q.1 = some r → r.length ≤ k ∧ ∀ x ∈ r, (∀ t, x.1 = some t → t < n) ∧ x.2 ≤ 3 ∧ (kd ≠ 3 → x.2 = 0)
def VA (A : AM) : Prop := A.1 ≤ 3 ∧ 1 ≤ A.2.1 ∧ A.2.1 ≤ 4 ∧ 1 ≤ aN A ∧ aN A ≤ 14 ∧ ∀ q ∈ A.2.2, VR (aN A) A.2.1 A.1 q
def RowC (I : MI) (o s : Nat) (q : Option ROW × Nat) : Prop := I (o + 4) s = nI q.2 ∧ (q.1 = none → I (o + 1) s = -1) ∧ ∀ r, q.1 = some r → I (o + 1) s = nI r.length ∧ ∀ (a : Nat) (x : Option Nat × Nat), r[a]? = some x → I (o + 2) (s * 4 + a) = enO x.1 ∧ I (o + 3) (s * 4 + a) = nI x.2
def RepC (I : MI) (o : Nat) (A : AM) : Prop := I o 0 = nI A.1 ∧ I o 1 = nI (aN A) ∧ I o 2 = nI A.2.1 ∧ ∀ (s : Nat) (q : Option ROW × Nat), A.2.2[s]? = some q → RowC I o s q
def RowM (I : MI) (m s kd : Nat) (q : Option ROW × Nat) : Prop := I 187 (14 * m + s) = nI q.2 ∧ (q.1 = none → I 188 (14 * m + s) = -1) ∧ ∀ r, q.1 = some r → I 188 (14 * m + s) = nI r.length ∧ ∀ (a : Nat) (x : Option Nat × Nat), r[a]? = some x → I 189 (4 * (14 * m + s) + a) = enO x.1 ∧ (kd = 3 → I 190 (4 * (14 * m + s) + a) = nI x.2)
def RepM (I : MI) (m : Nat) (A : AM) : Prop := I 184 m = nI A.1 ∧ I 185 m = nI (aN A) ∧ I 186 m = nI A.2.1 ∧ ∀ (s : Nat) (q : Option ROW × Nat), A.2.2[s]? = some q → RowM I m s A.1 q
/-- class and reference keep to their own cells -/
def FrS (I I' : MI) (J J' : MJ) : Prop := (∀ i, 177 ≤ i → I' i = I i) ∧ ∀ i, 177 ≤ i → J' i = J i
def FrM (I I' : MI) (J J' : MJ) : Prop := (∀ i, i < 177 → I' i = I i) ∧ ∀ i, i < 177 → J' i = J i
theorem FrS.rf {I : MI} {J : MJ} : FrS I I J J := ⟨fun _ _ => rfl, fun _ _ => rfl⟩
theorem FrM.rf {I : MI} {J : MJ} : FrM I I J J := ⟨fun _ _ => rfl, fun _ _ => rfl⟩
theorem FrS.tr {I I' I'' : MI} {J J' J'' : MJ} (h : FrS I I' J J') (h' : FrS I' I'' J' J'') : FrS I I'' J J'' := ⟨fun i hi => (h'.1 i hi).trans (h.1 i hi), fun i hi => (h'.2 i hi).trans (h.2 i hi)⟩
theorem FrM.tr {I I' I'' : MI} {J J' J'' : MJ} (h : FrM I I' J J') (h' : FrM I' I'' J' J'') : FrM I I'' J J'' := ⟨fun i hi => (h'.1 i hi).trans (h.1 i hi), fun i hi => (h'.2 i hi).trans (h.2 i hi)⟩
/-! places -/
theorem s_isPlace {x : Int32} {I : MI} {J : MJ} {Q : Int32 → MI → MJ → Prop} : f_School_isPlace x I J Q ↔ Q (if x < 0 ∨ 16 ≤ x then 0 else 1) I J := by
  unfold f_School_isPlace
  by_cases h1 : x < 0
  · simp [h1]
  · by_cases h2 : (16 : Int32) ≤ x
    · simp [h1, h2]
    · simp [h1, h2]
theorem m_isPlace {x : Int32} {I : MI} {J : MJ} {Q : Int32 → MI → MJ → Prop} : f_Model_isPlace x I J Q ↔ Q (if x < 0 ∨ 16 ≤ x then 0 else 1) I J := by
  unfold f_Model_isPlace
  by_cases h1 : x < 0
  · simp [h1]
  · by_cases h2 : (16 : Int32) ≤ x
    · simp [h1, h2]
    · simp [h1, h2]
theorem pl_no {p : Nat} (h : p < 16) : ¬ (nI p < 0 ∨ 16 ≤ nI p) := by
  rintro (h1 | h1)
  · exact nI_pos (by omega) h1
  · exact nI_ge (b := 16) h (by decide) h1
theorem s_isPlaceN {p : Nat} (h : p < 16) {I : MI} {J : MJ} {Q : Int32 → MI → MJ → Prop} : f_School_isPlace (nI p) I J Q ↔ Q 1 I J := by rw [s_isPlace, if_neg (pl_no h)]
theorem m_isPlaceN {p : Nat} (h : p < 16) {I : MI} {J : MJ} {Q : Int32 → MI → MJ → Prop} : f_Model_isPlace (nI p) I J Q ↔ Q 1 I J := by rw [m_isPlace, if_neg (pl_no h)]
theorem s_isPlaceB {x : Int32} (h : x < 0 ∨ 16 ≤ x) {I : MI} {J : MJ} {Q : Int32 → MI → MJ → Prop} : f_School_isPlace x I J Q ↔ Q 0 I J := by rw [s_isPlace, if_pos h]
theorem m_isPlaceB {x : Int32} (h : x < 0 ∨ 16 ≤ x) {I : MI} {J : MJ} {Q : Int32 → MI → MJ → Prop} : f_Model_isPlace x I J Q ↔ Q 0 I J := by rw [m_isPlace, if_pos h]
theorem s_placeFaultN {p : Nat} (h : p < 16) {I : MI} {J : MJ} {Q : Int32 → MI → MJ → Prop} : f_School_placeFault (nI p) I J Q ↔ Q 0 I J := by
  unfold f_School_placeFault
  rw [s_isPlaceN h]
  simp
theorem s_placeFaultB {x : Int32} (h : x < 0 ∨ 16 ≤ x) {I : MI} {J : MJ} {Q : Int32 → MI → MJ → Prop} : f_School_placeFault x I J Q ↔ Q 2 I J := by
  unfold f_School_placeFault
  rw [s_isPlaceB h]
  simp
theorem s_refuse {x : Int32} {I : MI} {J : MJ} {Q : Int32 → MI → MJ → Prop} : f_School_refuse x I J Q ↔ Q (-1) (sI I 0 (upd (I 0) 8 x)) J := by simp [f_School_refuse]
theorem s_done {x : Int32} {I : MI} {J : MJ} {Q : Int32 → MI → MJ → Prop} : f_School_done x I J Q ↔ Q x (sI I 0 (upd (I 0) 8 0)) J := by simp [f_School_done]
theorem m_refuse {x : Int32} {I : MI} {J : MJ} {Q : Int32 → MI → MJ → Prop} : f_Model_refuse x I J Q ↔ Q (-1) (sI I 177 (upd (I 177) 13 x)) J := by simp [f_Model_refuse]
theorem m_done {x : Int32} {I : MI} {J : MJ} {Q : Int32 → MI → MJ → Prop} : f_Model_done x I J Q ↔ Q x (sI I 177 (upd (I 177) 13 0)) J := by simp [f_Model_done]
