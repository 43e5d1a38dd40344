/-! The abstract state: what lies at the places, failures, finding, pupil, known words. -/
abbrev TE : Type := Nat × AM × Nat × List Int64
abbrev TH : Type := Option (AM ⊕ TE)
/-- secret, limit, ahead, behind, told -/
abbrev PU : Type := AM × Nat × List (List Nat) × List (List Nat) × Int64
abbrev SG : Type := (Nat → TH) × (Nat → Option Int32) × Int32 × Option PU × List (Int64 × Nat)
def setD (σ : SG) (p : Nat) (t : TH) : SG := (fun q => if q = p then t else σ.1 q, σ.2)
def setF (σ : SG) (p : Nat) (t : Option Int32) : SG := (σ.1, fun q => if q = p then t else σ.2.1 q, σ.2.2)
def fnd (σ : SG) (v : Int32) : SG := (σ.1, σ.2.1, v, σ.2.2.2)
def ref (v : Int32) (σ : SG) : Int32 × SG := (-1, fnd σ v)
def don (r : Int32) (σ : SG) : Int32 × SG := (r, fnd σ 0)
def plc (x : Int32) : Option Nat := if x < 0 ∨ 16 ≤ x then none else some x.toNatClampNeg
theorem plc_cases (x : Int32) : (∃ p, p < 16 ∧ x = nI p ∧ plc x = some p) ∨ ((x < 0 ∨ 16 ≤ x) ∧ plc x = none) := by
  rcases in_cases x 16 (by decide) with ⟨p, hp, rfl⟩ | h
  · exact Or.inl ⟨p, hp, rfl, by unfold plc; rw [if_neg (pl_no hp), nI_clamp (by omega)]⟩
  · have h : x < 0 ∨ 16 ≤ x := h
    exact Or.inr ⟨h, by unfold plc; rw [if_pos h]⟩
/-- a secret: a machine as LEAST ones are -/
def VL (A : AM) : Prop := VA A ∧ A.1 ≤ 2 ∧ ∀ q ∈ A.2.2, ∃ r, q.1 = some r ∧ r.length = A.2.1
def VT (t : TE) : Prop := t.1 ≤ 2 ∧ VL t.2.1 ∧ t.2.2.1 ≤ 30 ∧ t.2.2.2.length ≤ 8 ∧ (t.1 < 2 → t.2.2.2 = [])
def PlS (I : MI) (J : MJ) (b : Nat) : TH → Prop
  | none => I b 0 = -1
  | some (.inl A) => I b 0 = nI A.1 ∧ RepC I (b + 1) A ∧ VA A
  | some (.inr t) => I b 0 = nI (4 + t.1) ∧ RepC I (b + 1) t.2.1 ∧ VT t ∧ I b 2 = nI t.2.2.1 ∧ I b 3 = nI t.2.2.2.length ∧ ∀ (i : Nat) (w : Int64), t.2.2.2[i]? = some w → J (b + 6) i = w
def PlM (I : MI) (J : MJ) (p : Nat) : TH → Prop
  | none => I 178 p = -1
  | some (.inl A) => I 178 p = nI A.1 ∧ RepM I p A ∧ VA A
  | some (.inr t) => I 178 p = nI (4 + t.1) ∧ RepM I p t.2.1 ∧ VT t ∧ I 179 p = nI t.2.2.1 ∧ I 181 p = nI t.2.2.2.length ∧ ∀ (i : Nat) (w : Int64), t.2.2.2[i]? = some w → J 180 (8 * p + i) = w
def FaS (I : MI) (b : Nat) : Option Int32 → Prop
  | none => I b 5 = 0
  | some n => I b 5 = 1 ∧ I b 6 = n
def FaM (I : MI) (p : Nat) : Option Int32 → Prop
  | none => I 183 p = 0
  | some n => I 183 p = 1 ∧ I 182 p = n
/-- known words -/
def isWd (x : Int64) : Prop := ∃ w : List Nat, w.length ≤ 30 ∧ (∀ a ∈ w, a < 4) ∧ x = lN (num w)
def VK (ks : List (Int64 × Nat)) : Prop := ks.length ≤ 12 ∧ (∀ q ∈ ks, isWd q.1 ∧ q.2 ≤ 7) ∧ (ks.map (fun q => q.1)).Nodup
def KnS (I : MI) (J : MJ) (ks : List (Int64 × Nat)) : Prop := VK ks ∧ I 52 0 = nI ks.length ∧ ∀ (i : Nat) (q : Int64 × Nat), ks[i]? = some q → J 53 i = q.1 ∧ I 54 i = nI q.2 ∧ ∃ w : List Nat, w.length ≤ 30 ∧ (∀ a ∈ w, a < 4) ∧ q.1 = lN (num w) ∧ I 56 i = nI w.length
def KnM (I : MI) (J : MJ) (ks : List (Int64 × Nat)) : Prop := VK ks ∧ I 177 59 = nI ks.length ∧ ∀ (i : Nat) (q : Int64 × Nat), ks[i]? = some q → J 217 i = q.1 ∧ I 218 i = nI q.2
/-- the chart's slots: only those that its nodes use -/
def HaS (I : MI) : Prop := ∃ n : Nat, n ≤ 225 ∧ I 2 0 = nI n ∧ (∀ i, i < n → ∃ q : Nat, q < 512 ∧ I 4 i = nI q) ∧ ∀ q, q < 512 → (∀ i, i < n → I 4 i ≠ nI q) → I 5 q = 0
/-! runs -/
def cnt (h c : Nat) : Option Nat := if h = 1 then (if c < 3 then some (c + 1) else none) else if h = 2 then (if 0 < c then some (c - 1) else none) else if h = 3 then (if c = 0 then some 0 else none) else some c
def tkO (A : AM) (s a : Nat) : Option (Option Nat × Nat) := (A.2.2[s]?).bind fun q => q.1.bind fun r => r[a]?
def dl (A : AM) (sc : Nat × Nat) (a : Nat) : Option (Nat × Nat) := (tkO A sc.1 a).bind fun x => x.1.bind fun t => (cnt x.2 sc.2).map fun c => (t, c)
def run (A : AM) (sc : Nat × Nat) (w : List Nat) : Option (Nat × Nat) := w.foldlM (dl A) sc
def anS (A : AM) (s : Nat) : Nat := ((A.2.2[s]?).map fun q => q.2).getD 8
def ansF (A : AM) (sc : Nat × Nat) (w : List Nat) : Nat := match run A sc w with
  | none => 8
  | some q => anS A q.1
def endS (A : AM) (w : List Nat) : Nat := match run A (0, 0) w with
  | none => 0
  | some q => q.1
/-- the kind of a machine by what it has -/
def kdOf (k : Nat) (qs : List (Option ROW × Nat)) : Nat := if qs.any (fun q => match q.1 with | none => true | some r => r.any (fun x => x.1.isNone) || decide (r.length < k)) then 2 else if qs.any (fun q => decide (1 < q.2)) then 1 else 0
def rowOf (S : AM) (bh : List (List Nat)) (w : List Nat) : List Nat := bh.map fun v => ansF S (0, 0) (w ++ v)
def likeA (S : AM) (ah bh : List (List Nat)) (u : List Nat) : Option Nat := ah.findIdx? fun w => rowOf S bh w == rowOf S bh u
def gSt (S : AM) (ah bh : List (List Nat)) : List (Option ROW × Nat) := ah.map fun w => (some ((List.range S.2.1).map fun a => (if (run S (0, 0) (w ++ [a])).isSome then likeA S ah bh (w ++ [a]) else none, 0)), ansF S (0, 0) w)
def mkG (S : AM) (ah bh : List (List Nat)) : AM := (kdOf S.2.1 (gSt S ah bh), S.2.1, gSt S ah bh)
def wOk (w : List Nat) : Prop := w.length ≤ 30 ∧ ∀ a ∈ w, a < 4
/-- a pupil: what it knows is closed, its rows are apart -/
def VP (P : PU) : Prop := VL P.1 ∧ P.2.1 ≤ 30 ∧ P.2.2.1[0]? = some [] ∧ P.2.2.2.1[0]? = some [] ∧ P.2.2.1.length ≤ 14 ∧ P.2.2.2.1.length ≤ P.2.2.1.length ∧ (∀ w ∈ P.2.2.1, wOk w ∧ (run P.1 (0, 0) w).isSome) ∧ ((∀ v ∈ P.2.2.2.1, wOk v) ∧ ∀ (i : Nat) (w : List Nat), P.2.2.1[i]? = some w → w.length ≤ i) ∧ (∀ (i j : Nat) (u w : List Nat), P.2.2.1[i]? = some u → P.2.2.1[j]? = some w → rowOf P.1 P.2.2.2.1 u = rowOf P.1 P.2.2.2.1 w → i = j) ∧ ∀ w ∈ P.2.2.1, ∀ a, a < P.1.2.1 → (run P.1 (0, 0) (w ++ [a])).isSome → (likeA P.1 P.2.2.1 P.2.2.2.1 (w ++ [a])).isSome
def PuS (I : MI) (J : MJ) : Option PU → Prop
  | none => I 37 0 = 0 ∧ I 37 2 = 0 ∧ I 37 3 = 0 ∧ I 37 4 = 0 ∧ J 37 5 = 0
  | some P => I 37 0 = 1 ∧ I 37 1 = nI P.2.1 ∧ I 37 2 = nI P.2.2.1.length ∧ I 37 3 = nI P.2.2.2.1.length ∧ I 37 4 = nI P.2.2.2.1.length ∧ J 37 5 = P.2.2.2.2 ∧ RepC I 38 P.1 ∧ RepC I 43 (mkG P.1 P.2.2.1 P.2.2.2.1) ∧ (∀ (i : Nat) (w : List Nat), P.2.2.1[i]? = some w → J 48 i = lN (num w) ∧ I 50 i = nI (endS P.1 w)) ∧ (∀ (j : Nat) (v : List Nat), P.2.2.2.1[j]? = some v → J 49 j = lN (num v) ∧ ∀ s, s < aN P.1 → I 51 (s * 14 + j) = nI (ansF P.1 (s, 0) v)) ∧ VP P
def PuM (I : MI) (J : MJ) : Option PU → Prop
  | none => I 177 49 = 0
  | some P => I 177 49 = 1 ∧ I 177 50 = nI P.2.1 ∧ I 177 53 = nI P.2.2.1.length ∧ I 177 54 = nI P.2.2.2.1.length ∧ I 177 56 = nI P.2.2.2.1.length ∧ J 177 55 = P.2.2.2.2 ∧ RepM I 16 P.1 ∧ RepM I 17 (mkG P.1 P.2.2.1 P.2.2.2.1) ∧ (∀ (i : Nat) (w : List Nat), P.2.2.1[i]? = some w → J 215 i = lN (num w)) ∧ (∀ (j : Nat) (v : List Nat), P.2.2.2.1[j]? = some v → J 216 j = lN (num v)) ∧ VP P
def AbsS (I : MI) (J : MJ) (σ : SG) : Prop := (∀ p, p < 16 → PlS I J (1 + 64 + 7 * p) (σ.1 p) ∧ FaS I (1 + 64 + 7 * p) (σ.2.1 p)) ∧ I 0 8 = σ.2.2.1 ∧ PuS I J σ.2.2.2.1 ∧ KnS I J σ.2.2.2.2 ∧ HaS I
def AbsM (I : MI) (J : MJ) (σ : SG) : Prop := (∀ p, p < 16 → PlM I J p (σ.1 p) ∧ FaM I p (σ.2.1 p)) ∧ I 177 13 = σ.2.2.1 ∧ PuM I J σ.2.2.2.1 ∧ KnM I J σ.2.2.2.2
/-! frames of the parts -/
theorem RowC.kp {I I' : MI} {o s : Nat} {q : Option ROW × Nat} (h : RowC I o s q) (e : ∀ i, o ≤ i → i ≤ o + 4 → I' i = I i) : RowC I' o s q := by
  unfold RowC at *
  rw [e (o + 4) (by omega) (by omega), e (o + 1) (by omega) (by omega), e (o + 2) (by omega) (by omega), e (o + 3) (by omega) (by omega)]
  exact h
theorem RepC.kp {I I' : MI} {o : Nat} {A : AM} (h : RepC I o A) (e : ∀ i, o ≤ i → i ≤ o + 4 → I' i = I i) : RepC I' o A := by
  obtain ⟨h1, h2, h3, h4⟩ := h
  refine ⟨?_, ?_, ?_, fun s q hq => (h4 s q hq).kp e⟩ <;> rw [e o (by omega) (by omega)] <;> assumption
theorem PlS.kp {I I' : MI} {J J' : MJ} {b : Nat} {t : TH} (h : PlS I J b t) (e0 : I' b 0 = I b 0 ∧ I' b 2 = I b 2 ∧ I' b 3 = I b 3) (e : ∀ i, b < i → i ≤ b + 5 → I' i = I i) (ej : J' (b + 6) = J (b + 6)) : PlS I' J' b t := by
  match t, h with
  | none, h => exact e0.1.trans h
  | some (.inl A), h => exact ⟨e0.1.trans h.1, h.2.1.kp (fun i h1 h2 => e i (by omega) (by omega)), h.2.2⟩
  | some (.inr t), h => exact ⟨e0.1.trans h.1, h.2.1.kp (fun i h1 h2 => e i (by omega) (by omega)), h.2.2.1, e0.2.1.trans h.2.2.2.1, e0.2.2.trans h.2.2.2.2.1, by rw [ej]; exact h.2.2.2.2.2⟩
theorem FaS.kp {I I' : MI} {b : Nat} {t : Option Int32} (h : FaS I b t) (e : I' b 5 = I b 5 ∧ I' b 6 = I b 6) : FaS I' b t := by
  match t, h with
  | none, h => exact e.1.trans h
  | some n, h => exact ⟨e.1.trans h.1, e.2.trans h.2⟩
theorem PuS.kp {I I' : MI} {J J' : MJ} {t : Option PU} (h : PuS I J t) (e : ∀ i, 37 ≤ i → i ≤ 51 → I' i = I i) (ej : ∀ i, 37 ≤ i → i ≤ 51 → J' i = J i) : PuS I' J' t := by
  match t, h with
  | none, h => unfold PuS at *; rw [e 37 (by omega) (by omega), ej 37 (by omega) (by omega)]; exact h
  | some P, h =>
    obtain ⟨h1, h2, h3, h4, h5, h6, h7, h8, h9, h10, h11⟩ := h
    unfold PuS
    rw [e 37 (by omega) (by omega), ej 37 (by omega) (by omega), ej 48 (by omega) (by omega), ej 49 (by omega) (by omega), e 50 (by omega) (by omega), e 51 (by omega) (by omega)]
    exact ⟨h1, h2, h3, h4, h5, h6, h7.kp (fun i h1 h2 => e i (by omega) (by omega)), h8.kp (fun i h1 h2 => e i (by omega) (by omega)), h9, h10, h11⟩
theorem KnS.kp {I I' : MI} {J J' : MJ} {t : List (Int64 × Nat)} (h : KnS I J t) (e : ∀ i, 52 ≤ i → i ≤ 56 → I' i = I i) (ej : J' 53 = J 53) : KnS I' J' t := by
  unfold KnS at *
  rw [e 52 (by omega) (by omega), e 54 (by omega) (by omega), e 56 (by omega) (by omega), ej]
  exact h
theorem HaS.kp {I I' : MI} (h : HaS I) (e : I' 2 0 = I 2 0 ∧ I' 4 = I 4 ∧ I' 5 = I 5) : HaS I' := by
  unfold HaS at *
  rw [e.1, e.2.1, e.2.2]
  exact h
theorem AbsS.kp {I I' : MI} {J J' : MJ} {σ : SG} (h : AbsS I J σ) (e : ∀ i, i < 177 → I' i = I i) (ej : ∀ i, i < 177 → J' i = J i) : AbsS I' J' σ := by
  obtain ⟨h1, h2, h3, h4, h5⟩ := h
  refine ⟨fun p hp => ⟨(h1 p hp).1.kp ?_ (fun i a b => e i (by omega)) (ej _ (by omega)), (h1 p hp).2.kp ?_⟩, by rw [e 0 (by omega)]; exact h2, h3.kp (fun i a b => e i (by omega)) (fun i a b => ej i (by omega)), h4.kp (fun i a b => e i (by omega)) (ej _ (by omega)), h5.kp ⟨by rw [e 2 (by omega)], e 4 (by omega), e 5 (by omega)⟩⟩
  · rw [e _ (by omega)]; exact ⟨rfl, rfl, rfl⟩
  · rw [e _ (by omega)]; exact ⟨rfl, rfl⟩
theorem AbsM.kp {I I' : MI} {J J' : MJ} {σ : SG} (h : AbsM I J σ) (e : ∀ i, 177 ≤ i → I' i = I i) (ej : ∀ i, 177 ≤ i → J' i = J i) : AbsM I' J' σ := by
  have key : ∀ (m : Nat) (A : AM), RepM I m A → RepM I' m A := by
    intro m A hA
    unfold RepM RowM at *
    rw [e 184 (by omega), e 185 (by omega), e 186 (by omega), e 187 (by omega), e 188 (by omega), e 189 (by omega), e 190 (by omega)]
    exact hA
  obtain ⟨h1, h2, h3, h4⟩ := h
  refine ⟨fun p hp => ⟨?_, ?_⟩, by rw [e 177 (by omega)]; exact h2, ?_, ?_⟩
  · have h := (h1 p hp).1
    revert h
    generalize σ.1 p = t
    intro h
    match t, h with
    | none, h => show I' 178 p = -1; rw [e 178 (by omega)]; exact h
    | some (.inl A), h => exact ⟨by rw [e 178 (by omega)]; exact h.1, key _ _ h.2.1, h.2.2⟩
    | some (.inr t), h => exact ⟨by rw [e 178 (by omega)]; exact h.1, key _ _ h.2.1, h.2.2.1, by rw [e 179 (by omega)]; exact h.2.2.2.1, by rw [e 181 (by omega)]; exact h.2.2.2.2.1, by rw [ej 180 (by omega)]; exact h.2.2.2.2.2⟩
  · have h := (h1 p hp).2
    revert h
    generalize σ.2.1 p = t
    intro h
    match t, h with
    | none, h => show I' 183 p = 0; rw [e 183 (by omega)]; exact h
    | some n, h => show I' 183 p = 1 ∧ I' 182 p = n; rw [e 183 (by omega), e 182 (by omega)]; exact h
  · revert h3
    generalize σ.2.2.2.1 = t
    intro h
    match t, h with
    | none, h => show I' 177 49 = 0; rw [e 177 (by omega)]; exact h
    | some P, h =>
      obtain ⟨g1, g2, g3, g4, g5, g6, g7, g8, g9, g10, g11⟩ := h
      unfold PuM
      rw [e 177 (by omega), ej 177 (by omega), ej 215 (by omega), ej 216 (by omega)]
      exact ⟨g1, g2, g3, g4, g5, g6, key _ _ g7, key _ _ g8, g9, g10, g11⟩
  · unfold KnM at *
    rw [e 177 (by omega), e 218 (by omega), ej 217 (by omega)]
    exact h4
