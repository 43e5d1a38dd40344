/-! join: the reference's walk -/
def spF (f : Nat) : Option (Nat × Nat) := if f = 14 then none else some (f, 0)
theorem spF_ok {A : AM} {f : Nat} (h : okF A f) : okSo A (spF f) := by
  unfold spF
  intro q hq
  by_cases e : f = 14
  · rw [if_pos e] at hq; cases hq
  · rw [if_neg e] at hq
    cases hq
    have := h.1
    exact ⟨h.2 (by omega), (show 0 < 4 by decide), fun _ => rfl⟩
theorem spF_mv {A : AM} (hv : VA A) (h3 : A.1 ≠ 3) {f a : Nat} (h : okF A f) : (spF f).bind (fun q => dl A q a) = spF (mvF A f a) := by
  have h14 := hv.2.2.2.2.1
  unfold spF mvF
  by_cases e : f = 14
  · rw [if_pos e, e, ld_no h14]
    rfl
  · rw [if_neg e]
    show dl A (f, 0) a = _
    unfold ld
    cases hx : tkO A f a with
    | none => rw [dl_no hx]; rfl
    | some x =>
      obtain ⟨k1, k2, k3, k4, k5⟩ := tkO_v hv hx
      rw [dl_0 hx (k3 h3)]
      cases hy : x.1 with
      | none => simp [hy]
      | some t =>
        have := k1 t hy
        simp [hy, show ¬ t = 14 by omega]
theorem yes_an {A : AM} {f : Nat} (hv : VA A) (h : okF A f) : (yes A).testBit f = true ↔ anO A (spF f) = 1 := by
  rw [yes_bit]
  have h14 := hv.2.2.2.2.1
  unfold spF
  by_cases e : f = 14
  · rw [if_pos e]
    simp [anO]
    omega
  · rw [if_neg e]
    show _ ↔ anS A f = 1
    exact ⟨fun h => h.2, fun hh => ⟨h.2 (by have := h.1; omega), hh⟩⟩
theorem m_yesBy {m : Nat} {A : AM} {x : Option (Nat × Nat)} {I : MI} {J : MJ} {Q : Int32 → MI → MJ → Prop} (hm : m < 20) (hA : RepM I m A) (hv : VA A) (hx : okSp A x) : f_Model_isYesBy (nI m) (en1 x) I J Q ↔ Q (if anO A x = 1 then 1 else 0) I J := by
  unfold f_Model_isYesBy
  cases x with
  | none => rw [if_pos (by decide)]; exact Iff.rfl
  | some q =>
    obtain ⟨h1, h2⟩ := hx q rfl
    have h14 : q.1 < 14 := by have := hv.2.2.2.2.1; omega
    obtain ⟨z, hz⟩ := VA.get h1
    have h7 := anS_8 hv h1
    show _ ↔ Q (if anS A q.1 = 1 then 1 else 0) I J
    rw [show en1 (some q) = nI q.1 from rfl, if_neg (nI0_lt (by omega)), l14, pk_mul, nI_add, vpN (by omega), nI_clamp (by omega), (hA.2.2.2 _ z hz).1, ← anS_of hz]
    by_cases e : anS A q.1 = 1
    · rw [if_pos (by rw [e]; rfl), if_pos e]; exact ⟨fun h => h.2, fun h => ⟨by omega, h⟩⟩
    · rw [if_neg (by rw [l1, eqNN (by omega) (by decide)]; exact e), if_neg e]; exact ⟨fun h => h.2, fun h => ⟨by omega, h⟩⟩
theorem m_lead1 {m s a : Nat} {A : AM} {I : MI} {J : MJ} {Q : Int32 → MI → MJ → Prop} (hm : m < 20) (hA : RepM I m A) (hv : VA A) (h3 : A.1 ≠ 3) (hs : s < aN A) (ha : a < 4) : f_Model_leadsOf (nI m) (nI s) (nI a) I J Q ↔ Q (enO (ld A s a)) I J := by
  have h := m_leads1 (x := some (s, 0)) (J := J) (Q := Q) hm hA hv h3 (fun q hq => by cases hq; exact ⟨hs, (show 0 < 4 by decide), fun _ => rfl⟩) ha
  have e : en1 ((some (s, 0) : Option (Nat × Nat)).bind (fun q => dl A q a)) = enO (ld A s a) := by
    show en1 (dl A (s, 0) a) = _
    unfold ld
    cases hx : tkO A s a with
    | none => rw [dl_no hx]; rfl
    | some x =>
      rw [dl_0 hx ((tkO_v hv hx).2.2.1 h3)]
      cases hy : x.1 with
      | none => simp [hy]; rfl
      | some t => simp [hy]; rfl
  rw [e] at h
  exact h
theorem m_any {m set : Nat} {A : AM} {I : MI} {J : MJ} {Q : Int32 → MI → MJ → Prop} (hm : m < 20) (hA : RepM I m A) (hv : VA A) (hset : set < 2 ^ 31) (q : Q (if set &&& yes A ≠ 0 then 1 else 0) I J) : f_Model_anyYes (nI m) (nI set) I J Q := by
  unfold f_Model_anyYes
  have h14 := hv.2.2.2.2.1
  refine lp2 (fun n (b : Bool) (s : Nat) => f_Model_anyYes_L5 (nI m) (nI set) _ n (if b = true then 1 else 0) (nI s) I J) (fun b s => s ≤ aN A ∧ (b = true ↔ ∃ s', s' < s ∧ set.testBit s' = true ∧ anS A s' = 1)) (fun _ s => aN A - s) ?_ false 0 ⟨Nat.zero_le _, by simp⟩
  rintro n b s ⟨b1, b2⟩ ih
  unfold f_Model_anyYes_L5
  rw [vpN (by omega), nI_clamp (by omega), hA.2.1]
  refine ⟨hm, ?_⟩
  by_cases es : s = aN A
  · rw [if_pos (by rw [es, leNN (by omega) (by omega)]; exact Nat.le_refl _)]
    refine ⟨by cases b <;> simp, ?_⟩
    have : (b = true) ↔ set &&& yes A ≠ 0 := by rw [b2, any_yes, es]
    by_cases h : b = true
    · rw [if_pos h]; rw [if_pos (this.mp h)] at q; exact q
    · rw [if_neg h]; rw [if_neg (fun hh => h (this.mpr hh))] at q; exact q
  · have hs' : s < aN A := by omega
    rw [if_neg (by rw [leNN (by omega) (by omega)]; omega)]
    unfold f_Model_anyYes_b40 f_Model_anyYes_b44 f_Model_anyYes_b45
    simp only [nI_1, forall_eq]
    cases b with
    | true =>
      rw [if_neg (by decide)]
      refine ih true (s + 1) ⟨by omega, ?_⟩ (by omega)
      obtain ⟨s', h1, h2⟩ := b2.mp rfl
      exact ⟨fun _ => ⟨s', by omega, h2⟩, fun _ => rfl⟩
    | false =>
      have hno : ¬ ∃ s', s' < s ∧ set.testBit s' = true ∧ anS A s' = 1 := fun h => by have := b2.mpr h; cases this
      have go0 : (set.testBit s = true → anS A s ≠ 1) → f_Model_anyYes_L5 (nI m) (nI set) (fun (z52_x3 : Int32) (I : MI) (J : MJ) => (z52_x3 = 0 ∨ z52_x3 = 1) ∧ Q z52_x3 I J) n 0 (nI (s + 1)) I J := by
        intro hh
        refine ih false (s + 1) ⟨by omega, ?_⟩ (by omega)
        constructor
        · intro h; cases h
        · rintro ⟨s', h1, h2, h3⟩
          exfalso
          by_cases e : s' = s
          · subst e; exact hh h2 h3
          · exact hno ⟨s', by omega, h2, h3⟩
      rw [if_pos (show (if false = true then (1 : Int32) else 0) = 0 from rfl), jb_bit hset (by omega)]
      by_cases hb : set.testBit s = true
      · rw [if_pos hb, if_pos rfl]
        have hy := m_yesBy (x := some (s, 0)) (I := I) (J := J) (Q := fun r34 I34 J34 => (if r34 = 0 then f_Model_anyYes_L5 (nI m) (nI set) (fun (z52_x3 : Int32) (I : MI) (J : MJ) => (z52_x3 = 0 ∨ z52_x3 = 1) ∧ Q z52_x3 I J) n 0 (nI (s + 1)) I34 J34 else f_Model_anyYes_L5 (nI m) (nI set) (fun (z52_x3 : Int32) (I : MI) (J : MJ) => (z52_x3 = 0 ∨ z52_x3 = 1) ∧ Q z52_x3 I J) n 1 (nI (s + 1)) I34 J34)) hm hA hv (fun q hq => by cases hq; exact ⟨hs', (show 0 < 4 by decide)⟩)
        refine hy.mpr ?_
        by_cases ha : anS A s = 1
        · rw [if_pos (show anO A (some (s, 0)) = 1 from ha), if_neg (by decide)]
          exact ih true (s + 1) ⟨by omega, ⟨fun _ => ⟨s, by omega, hb, ha⟩, fun _ => rfl⟩⟩ (by omega)
        · rw [if_neg (show ¬ anO A (some (s, 0)) = 1 from ha), if_pos rfl]
          exact go0 (fun _ => ha)
      · rw [if_neg hb, if_neg (by decide)]
        exact go0 (fun h => absurd h hb)
theorem m_ledTo {m set a : Nat} {A : AM} {I : MI} {J : MJ} {Q : Int32 → MI → MJ → Prop} (hm : m < 20) (hA : RepM I m A) (hv : VA A) (h3 : A.1 ≠ 3) (hset : set < 2 ^ 31) (ha : a < 4) (q : Q (nI (mvS A set a (aN A))) I J) : f_Model_ledTo (nI m) (nI set) (nI a) I J Q := by
  unfold f_Model_ledTo
  have h14 := hv.2.2.2.2.1
  refine lp1 (fun n (s : Nat) => f_Model_ledTo_L6 (nI m) (nI set) (nI a) _ n (nI (mvS A set a s)) (nI s) I J) (fun s => s ≤ aN A) (fun s => aN A - s) ?_ 0 (Nat.zero_le _)
  intro n s hs ih
  unfold f_Model_ledTo_L6
  rw [vpN (by omega), nI_clamp (by omega), hA.2.1]
  refine ⟨hm, ?_⟩
  by_cases es : s = aN A
  · rw [if_pos (by rw [es, leNN (by omega) (by omega)]; exact Nat.le_refl _), es]
    exact q
  · have key := ih (s + 1) (by omega) (by omega)
    rw [if_neg (by rw [leNN (by omega) (by omega)]; omega), jb_bit hset (by omega)]
    unfold f_Model_ledTo_b39 f_Model_ledTo_b56
    unfold mvS at key
    rw [nI_1]
    by_cases hb : set.testBit s = true
    · rw [if_pos hb, if_pos rfl, m_lead1 hm hA hv h3 (by omega) ha]
      rw [if_pos hb] at key
      cases hl : ld A s a with
      | none =>
        rw [hl] at key
        rw [if_pos (by decide), l0, jb_or, Nat.or_zero, forall_eq, forall_eq]
        exact key
      | some t =>
        have ht := (ld_lt hv hl).1
        rw [hl] at key
        rw [show enO (some t) = nI t from rfl, if_neg (nI0_lt (by omega)), jb_shl (by omega), jb_or, forall_eq, forall_eq]
        exact key
    · rw [if_neg hb, if_neg (by decide), if_pos (by decide), l0, jb_or, Nat.or_zero, forall_eq, forall_eq]
      rw [if_neg hb] at key
      exact key
theorem m_ledFrom {m set a : Nat} {A : AM} {I : MI} {J : MJ} {Q : Int32 → MI → MJ → Prop} (hm : m < 20) (hA : RepM I m A) (hv : VA A) (h3 : A.1 ≠ 3) (hset : set < 2 ^ 31) (ha : a < 4) (q : Q (nI (inS A set a (aN A))) I J) : f_Model_ledFrom (nI m) (nI set) (nI a) I J Q := by
  unfold f_Model_ledFrom
  have h14 := hv.2.2.2.2.1
  refine lp1 (fun n (s : Nat) => f_Model_ledFrom_L6 (nI m) (nI set) (nI a) _ n (nI (inS A set a s)) (nI s) I J) (fun s => s ≤ aN A) (fun s => aN A - s) ?_ 0 (Nat.zero_le _)
  intro n s hs ih
  unfold f_Model_ledFrom_L6
  rw [vpN (by omega), nI_clamp (by omega), hA.2.1]
  refine ⟨hm, ?_⟩
  by_cases es : s = aN A
  · rw [if_pos (by rw [es, leNN (by omega) (by omega)]; exact Nat.le_refl _), es]
    exact q
  · have key := ih (s + 1) (by omega) (by omega)
    rw [if_neg (by rw [leNN (by omega) (by omega)]; omega), m_lead1 hm hA hv h3 (by omega) ha]
    unfold f_Model_ledFrom_b51 f_Model_ledFrom_b52
    unfold inS at key
    rw [nI_1]
    cases hl : ld A s a with
    | none =>
      rw [hl] at key
      rw [if_pos (by decide), l0, jb_or, Nat.or_zero, forall_eq, forall_eq]
      exact key
    | some t =>
      have ht := (ld_lt hv hl).1
      rw [hl] at key
      rw [show enO (some t) = nI t from rfl, if_neg (nI0_lt (by omega)), jb_bit hset (by omega)]
      by_cases hb : set.testBit t = true
      · rw [if_pos hb, if_pos rfl, jb_shl (by omega), jb_or, forall_eq, forall_eq]
        simp only [if_pos hb] at key
        exact key
      · rw [if_neg hb, if_neg (by decide), l0, jb_or, Nat.or_zero, forall_eq, forall_eq]
        simp only [if_neg hb] at key
        exact key
def eO (how k : Nat) : Int32 := if how = 4 then 0 else if how = 5 then (if k = 16384 then 1 else 0) else en1 (spF (k / 16384))
def eS (how k : Nat) : Int32 := if how = 2 then 0 else if how = 0 ∨ how = 1 then en1 (spF (k % 16384)) else if how = 5 then (if k = 16384 then 1 else nI (k % 16384)) else nI (k % 16384)
def JnM (I : MI) (A B : AM) : Prop := RepM I 18 A ∧ RepM I 19 B
/-- only the two cells of the set at hand -/
def J2 (I I' : MI) : Prop := (∀ i, i ≠ 177 → I' i = I i) ∧ ∀ k, k ≠ 39 → k ≠ 40 → I' 177 k = I 177 k
theorem J2.rf {I : MI} : J2 I I := ⟨fun _ _ => rfl, fun _ _ _ => rfl⟩
theorem J2.tr {I I' I'' : MI} (h : J2 I I') (h' : J2 I' I'') : J2 I I'' := ⟨fun i a => (h'.1 i a).trans (h.1 i a), fun k a b => (h'.2 k a b).trans (h.2 k a b)⟩
theorem J2.a {I : MI} (v : Int32) : J2 I (sI I 177 (upd (I 177) 39 v)) := ⟨fun i hi => sI_n _ _ hi, fun k h1 _ => by rw [sI_s, pk_un h1]⟩
theorem J2.b {I : MI} (v : Int32) : J2 I (sI I 177 (upd (I 177) 40 v)) := ⟨fun i hi => sI_n _ _ hi, fun k _ h2 => by rw [sI_s, pk_un h2]⟩
theorem J2.rep {I I' : MI} {m : Nat} {A : AM} (h : J2 I I') (hA : RepM I m A) : RepM I' m A := by
  unfold RepM RowM at *
  rw [h.1 184 (by decide), h.1 185 (by decide), h.1 186 (by decide), h.1 187 (by decide), h.1 188 (by decide), h.1 189 (by decide), h.1 190 (by decide)]
  exact hA
theorem J2.jn {I I' : MI} {A B : AM} (h : J2 I I') (hA : JnM I A B) : JnM I' A B := ⟨h.rep hA.1, h.rep hA.2⟩
theorem an8_1 {A : AM} {x : Option (Nat × Nat)} : (if anO A x = 1 then (1 : Int32) else 0) = 0 ↔ ¬ anO A x = 1 := b01
