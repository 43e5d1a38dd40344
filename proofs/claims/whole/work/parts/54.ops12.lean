/-! take, act -/
def fTk (A : AM) (s a : Int32) : Int32 := match idx (aN A) s with
  | none => 2
  | some i => match (stQ A i).1 with
    | none => 1
    | some _ => match tX A i a with
      | none => 2
      | some _ => 0
theorem fTk_b {A : AM} {s a : Int32} (e : idx (aN A) s = none) : fTk A s a = 2 := by
  unfold fTk
  rw [e]
theorem fTk_n {A : AM} {s a : Int32} {i : Nat} {z : Option ROW × Nat} (e : idx (aN A) s = some i) (hz : A.2.2[i]? = some z) (hr : z.1 = none) : fTk A s a = 1 := by
  unfold fTk
  rw [e]
  show (match (stQ A i).1 with | none => (1 : Int32) | some _ => match tX A i a with | none => 2 | some _ => 0) = 1
  rw [stQ_of hz, hr]
theorem fTk_r {A : AM} {s a : Int32} {i : Nat} {z : Option ROW × Nat} {r : ROW} (e : idx (aN A) s = some i) (hz : A.2.2[i]? = some z) (hr : z.1 = some r) : fTk A s a = if (tX A i a).isSome then 0 else 2 := by
  unfold fTk
  rw [e]
  show (match (stQ A i).1 with | none => (1 : Int32) | some _ => match tX A i a with | none => 2 | some _ => 0) = _
  rw [stQ_of hz, hr]
  cases tX A i a with
  | none => rfl
  | some y => rfl
theorem fTk_cases {A : AM} (hv : VA A) (s a : Int32) : (∃ i b z r y, i < aN A ∧ s = nI i ∧ b < 4 ∧ a = nI b ∧ A.2.2[i]? = some z ∧ z.1 = some r ∧ r[b]? = some y ∧ fTk A s a = 0) ∨ fTk A s a ≠ 0 := by
  rcases idx_cases hv.n31 s with ⟨i, hi, hs, ei⟩ | ⟨hb, ei⟩
  · obtain ⟨z, hz⟩ := VA.get hi
    cases hr : z.1 with
    | none => exact Or.inr (by rw [fTk_n ei hz hr]; decide)
    | some r =>
      cases hx : tX A i a with
      | none => exact Or.inr (by rw [fTk_r ei hz hr, hx]; decide)
      | some y =>
        obtain ⟨b, z', r', hb, ha, hz', hr', hy⟩ := tX_inv hx
        rw [hz] at hz'
        cases hz'
        rw [hr] at hr'
        cases hr'
        exact Or.inl ⟨i, b, z, r, y, hi, hs, hb, ha, hz, hr, hy, by rw [fTk_r ei hz hr, hx]; rfl⟩
  · exact Or.inr (by rw [fTk_b ei]; decide)
theorem s_takeF {o : Nat} {A : AM} {s a : Int32} {I : MI} {J : MJ} {Q : Int32 → MI → MJ → Prop} (hA : RepC I o A) (hv : VA A) : f_School_takeFault o s a I J Q ↔ Q (fTk A s a) I J := by
  unfold f_School_takeFault fTk
  rcases idx_cases hv.n31 s with ⟨i, hi, rfl, ei⟩ | ⟨hb, ei⟩
  · have h14 : i < 14 := by have := hv.2.2.2.2.1; omega
    obtain ⟨z, hz⟩ := VA.get hi
    obtain ⟨g1, g2, g3⟩ := hA.2.2.2 i z hz
    rw [s_hasStN hA.2.1 hv.n31 hi, if_neg (by decide), nI_clamp (by omega), vpN (by omega), ei]
    simp only [stQ_of hz]
    cases hr : z.1 with
    | none => rw [if_pos (g2 hr)]; simp [h14]
    | some r =>
      have := (hv.row4 hz).2 r hr
      rw [(g3 r hr).1, if_neg (lm1 (by omega)), s_hasTk hA hv hi]
      cases hx : tX A i a with
      | none => simp [h14]
      | some y => simp [h14]
  · rw [s_hasStB hA.2.1 hb, if_pos rfl, ei]
theorem m_hasRw {m s : Nat} {A : AM} {z : Option ROW × Nat} {I : MI} {J : MJ} {Q : Int32 → MI → MJ → Prop} (hm : m < 20) (hA : RepM I m A) (hv : VA A) (hz : A.2.2[s]? = some z) : f_Model_hasRow (nI m) (nI s) I J Q ↔ Q (if z.1.isSome then 1 else 0) I J := by
  unfold f_Model_hasRow
  have h14 := (hv.row4 hz).1
  obtain ⟨g1, g2, g3⟩ := hA.2.2.2 s z hz
  rw [l14, pk_mul, nI_add, nI_clamp (by omega), vpN (by omega)]
  have hin : 14 * m + s < 280 := by omega
  cases hr : z.1 with
  | none => rw [g2 hr, if_pos (by decide)]; simp [hin]
  | some r =>
    have := (hv.row4 hz).2 r hr
    rw [(g3 r hr).1, if_neg (nI0_lt (by omega))]; simp [hin]
theorem m_noTk {m : Nat} {A : AM} {s a : Int32} {I : MI} {J : MJ} {Q : Int32 → MI → MJ → Prop} (hm : m < 20) (hA : RepM I m A) (hv : VA A) : f_Model_noTake (nI m) s a I J Q ↔ Q (fTk A s a) I J := by
  unfold f_Model_noTake fTk
  rcases idx_cases hv.n31 s with ⟨i, hi, rfl, ei⟩ | ⟨hb, ei⟩
  · have h14 : i < 14 := by have := hv.2.2.2.2.1; omega
    obtain ⟨z, hz⟩ := VA.get hi
    rw [m_isStN hm hA.2.1 hv.n31 hi, if_neg (by decide), m_hasRw hm hA hv hz, ei]
    simp only [stQ_of hz]
    cases hr : z.1 with
    | none => simp
    | some r =>
      rw [if_neg isS1, m_hasTk hm hA hv hi]
      cases hx : tX A i a with
      | none => simp
      | some y => simp
  · rw [m_isStB hm hA.2.1 hb, if_pos rfl, ei]
def setX (A : AM) (i b : Nat) (y : Option Nat × Nat) : AM := setQ A i ((stQ A i).1.map (fun r => r.set b y), (stQ A i).2)
theorem setX_VA {A : AM} {i b : Nat} {z : Option ROW × Nat} {r : ROW} {y : Option Nat × Nat} (hv : VA A) (hz : A.2.2[i]? = some z) (hr : z.1 = some r) (h1 : ∀ t, y.1 = some t → t < aN A) (h2 : A.1 < 2 → y.1 ≠ none) (h3 : y.2 ≤ 3) (h4 : A.1 ≠ 3 → y.2 = 0) : VA (setX A i b y) := by
  have hvr := hv.2.2.2.2.2 z (List.mem_of_getElem? hz)
  unfold setX
  rw [stQ_of hz, hr]
  refine setQ_VA hv ⟨hvr.1, fun hk => ?_, fun r' hr' => ?_⟩
  · obtain ⟨r0, e0, e1, e2⟩ := hvr.2.1 hk
    rw [hr] at e0
    cases e0
    refine ⟨r.set b y, rfl, by simpa using e1, fun x hx => ?_⟩
    rcases List.mem_or_eq_of_mem_set hx with h | h
    · exact e2 x h
    · rw [h]; exact h2 hk
  · cases hr'
    obtain ⟨e1, e2⟩ := hvr.2.2 r hr
    refine ⟨by simpa using e1, fun x hx => ?_⟩
    rcases List.mem_or_eq_of_mem_set hx with h | h
    · exact e2 x h
    · rw [h]; exact ⟨h1, h3, h4⟩
theorem set_get {α : Type} {r : List α} {b a : Nat} {x y : α} (h : (r.set b y)[a]? = some x) : (a = b ∧ x = y ∧ b < r.length) ∨ (a ≠ b ∧ r[a]? = some x) := by
  by_cases hab : a = b
  · subst hab
    by_cases hl : a < r.length
    · rw [List.getElem?_set_self hl] at h; cases h; exact Or.inl ⟨rfl, rfl, hl⟩
    · have := (List.getElem?_eq_some_iff.mp h).1; simp at this; exact absurd this hl
  · rw [List.getElem?_set_ne (Ne.symm hab)] at h; exact Or.inr ⟨hab, h⟩
theorem RepC.setX {I I' : MI} {o i b : Nat} {A : AM} {z : Option ROW × Nat} {r : ROW} {y : Option Nat × Nat} (h : RepC I o A) (hv : VA A) (hz : A.2.2[i]? = some z) (hr : z.1 = some r) (hb : b < r.length) (e0 : ∀ j, j ≠ o + 2 → j ≠ o + 3 → I' j = I j) (e2 : ∀ j, I' (o + 2) j = if j = i * 4 + b then enO y.1 else I (o + 2) j) (e3 : ∀ j, I' (o + 3) j = if j = i * 4 + b then nI y.2 else I (o + 3) j) : RepC I' o (setX A i b y) := by
  have hi : i < aN A := (List.getElem?_eq_some_iff.mp hz).1
  have h4 := (hv.row4 hz).2 r hr
  obtain ⟨g1, g2, g3⟩ := h.2.2.2 i z hz
  show RepC I' o (setQ A i ((stQ A i).1.map (fun r => r.set b y), (stQ A i).2))
  rw [stQ_of hz, hr]
  refine h.set hv hi (e0 _ (by omega) (by omega)) (fun j _ => by rw [e0 _ (by omega) (by omega)]) (fun j _ => by rw [e0 _ (by omega) (by omega)]) (fun j hj => ⟨by rw [e2, if_neg (by omega)], by rw [e3, if_neg (by omega)]⟩) ⟨by rw [e0 _ (by omega) (by omega)]; exact g1, (fun hh => by cases hh), fun r' hr' => ?_⟩
  cases hr'
  refine ⟨by rw [e0 _ (by omega) (by omega), (g3 r hr).1]; simp, fun a x hx => ?_⟩
  rcases set_get hx with ⟨rfl, rfl, _⟩ | ⟨hne, hx⟩
  · rw [e2, e3, if_pos rfl, if_pos rfl]; exact ⟨rfl, rfl⟩
  · rw [e2, e3, if_neg (by omega), if_neg (by omega)]; exact (g3 r hr).2 a x hx
theorem RepM.setX {I I' : MI} {m i b : Nat} {A : AM} {z : Option ROW × Nat} {r : ROW} {y : Option Nat × Nat} (h : RepM I m A) (hv : VA A) (hz : A.2.2[i]? = some z) (hr : z.1 = some r) (hb : b < r.length) (e0 : ∀ j, j ≠ 189 → j ≠ 190 → I' j = I j) (e2 : ∀ j, I' 189 j = if j = 4 * (14 * m + i) + b then enO y.1 else I 189 j) (e3 : ∀ j, j ≠ 4 * (14 * m + i) + b → I' 190 j = I 190 j) (e4 : A.1 = 3 → I' 190 (4 * (14 * m + i) + b) = nI y.2) : RepM I' m (setX A i b y) := by
  have hi : i < aN A := (List.getElem?_eq_some_iff.mp hz).1
  have h4 := (hv.row4 hz).2 r hr
  obtain ⟨g1, g2, g3⟩ := h.2.2.2 i z hz
  show RepM I' m (setQ A i ((stQ A i).1.map (fun r => r.set b y), (stQ A i).2))
  rw [stQ_of hz, hr]
  refine h.set hv hi ⟨by rw [e0 184 (by omega) (by omega)], by rw [e0 185 (by omega) (by omega)], by rw [e0 186 (by omega) (by omega)]⟩ (fun j _ => by rw [e0 187 (by omega) (by omega), e0 188 (by omega) (by omega)]; exact ⟨rfl, rfl⟩) (fun j hj => ⟨by rw [e2, if_neg (by omega)], e3 j (by omega)⟩) ⟨by rw [e0 187 (by omega) (by omega)]; exact g1, (fun hh => by cases hh), fun r' hr' => ?_⟩
  cases hr'
  refine ⟨by rw [e0 188 (by omega) (by omega), (g3 r hr).1]; simp, fun a x hx => ?_⟩
  rcases set_get hx with ⟨rfl, rfl, _⟩ | ⟨hne, hx⟩
  · rw [e2, if_pos rfl]; exact ⟨rfl, e4⟩
  · rw [e2, e3 _ (by omega), if_neg (by omega)]; exact (g3 r hr).2 a x hx
def opTake (x s a t : Int32) (σ : SG) : Int32 × SG := match maC σ x with
  | none => ref (fMa σ x) σ
  | some A => if fTk A s a ≠ 0 then ref (fTk A s a) σ else if t < -1 ∨ nI (aN A) ≤ t then ref 2 σ else if t = -1 ∧ A.1 < 2 then ref 4 σ else don 0 (setA σ x (setX A s.toNatClampNeg a.toNatClampNeg (if t = -1 then none else some t.toNatClampNeg, ((tX A s.toNatClampNeg a).map (fun y => y.2)).getD 0)))
def opAct (x s a t : Int32) (σ : SG) : Int32 × SG := match maC σ x with
  | none => ref (fMa σ x) σ
  | some A => if A.1 ≠ 3 then ref 4 σ else if fTk A s a ≠ 0 then ref (fTk A s a) σ else if t < 0 ∨ 3 < t then ref 2 σ else don 0 (setA σ x (setX A s.toNatClampNeg a.toNatClampNeg (((tX A s.toNatClampNeg a).map (fun y => y.1)).getD none, t.toNatClampNeg)))
theorem setX_k (A : AM) (i b : Nat) (y : Option Nat × Nat) : (setX A i b y).1 = A.1 := rfl
theorem i32_cases (t : Int32) : t < -1 ∨ t = -1 ∨ ∃ n, n < 2 ^ 31 ∧ t = nI n := by
  by_cases h : t < 0
  · by_cases h1 : t = -1
    · exact Or.inr (Or.inl h1)
    · refine Or.inl ?_
      rw [Int32.lt_iff_toInt_lt] at h ⊢
      have : t.toInt ≠ (-1 : Int32).toInt := fun e => h1 (Int32.toInt_inj.mp e)
      have e1 : (-1 : Int32).toInt = -1 := by decide
      have e0 : (0 : Int32).toInt = 0 := by decide
      omega
  · exact Or.inr (Or.inr (nI_of h))
theorem AbsS.setX {p i b t : Nat} {A : AM} {z : Option ROW × Nat} {r : ROW} {y y' : Option Nat × Nat} {v : Int32} {I I1 : MI} {J : MJ} {σ : SG} (h : AbsS I J σ) (hp : p < 16) (ht : σ.1 p = some (.inl A)) (hz : A.2.2[i]? = some z) (hr : z.1 = some r) (hy : r[b]? = some y) (h1 : ∀ t, y'.1 = some t → t < aN A) (h2 : A.1 < 2 → y'.1 ≠ none) (h3 : y'.2 ≤ 3) (h4 : A.1 ≠ 3 → y'.2 = 0) (hc : (t = 2 ∧ v = enO y'.1 ∧ y'.2 = y.2) ∨ (t = 3 ∧ v = nI y'.2 ∧ y'.1 = y.1)) (e1 : I1 = sI I (1 + 64 + 7 * p + 1 + t) (upd (I (1 + 64 + 7 * p + 1 + t)) (i * 4 + b) v)) : AbsS I1 J (setF (setD σ p (some (.inl (setX A i b y')))) p (σ.2.1 p)) := by
  have hP := (h.1 p hp).1
  rw [ht] at hP
  obtain ⟨g1, g2, g3⟩ := hP
  have h14 := (g3.row4 hz).1
  have hbr := (List.getElem?_eq_some_iff.mp hy).1
  obtain ⟨k1, k2⟩ := ((g2.2.2.2 i z hz).2.2 r hr).2 b y hy
  have ht23 : t = 2 ∨ t = 3 := by rcases hc with h | h <;> omega
  refine h.mach hp ht (fun j hj => by rw [e1, sI_n _ _ (by omega)]) rfl (g2.setX g3 hz hr hbr (fun j u1 u2 => by rw [e1, sI_n _ _ (by omega)]) (fun j => ?_) (fun j => ?_)) (setX_VA g3 hz hr h1 h2 h3 h4)
  · rcases hc with ⟨rfl, hc1, hc2⟩ | ⟨rfl, hc1, hc2⟩
    · rw [e1, sI_s, upd_at, hc1]
    · rw [e1, sI_n _ _ (by omega)]
      split
      · rename_i hj; rw [hj, k1, hc2]
      · rfl
  · rcases hc with ⟨rfl, hc1, hc2⟩ | ⟨rfl, hc1, hc2⟩
    · rw [e1, sI_n _ _ (by omega)]
      split
      · rename_i hj; rw [hj, k2, hc2]
      · rfl
    · rw [e1, sI_s, upd_at, hc1]
theorem S_takeEnd {p i b t : Nat} {A : AM} {z : Option ROW × Nat} {r : ROW} {y y' : Option Nat × Nat} {v : Int32} {I : MI} {J : MJ} {σ : SG} {Q : Int32 → MI → MJ → Prop} (h : AbsS I J σ) (hp : p < 16) (ht : σ.1 p = some (.inl A)) (hz : A.2.2[i]? = some z) (hr : z.1 = some r) (hy : r[b]? = some y) (hb : b < 4) (h1 : ∀ t, y'.1 = some t → t < aN A) (h2 : A.1 < 2 → y'.1 ≠ none) (h3 : y'.2 ≤ 3) (h4 : A.1 ≠ 3 → y'.2 = 0) (hc : (t = 2 ∧ v = enO y'.1 ∧ y'.2 = y.2) ∨ (t = 3 ∧ v = nI y'.2 ∧ y'.1 = y.1)) (q : KS I J (don 0 (setA σ (nI p) (setX A i b y'))) Q) : vp_in (nI p) 16 ∧ vp_in ((nI i * 4) + nI b) 56 ∧ ∀ I119 : MI, I119 = sI I (1 + 64 + 7 * (nI p).toNatClampNeg + 1 + t) (upd (I (1 + 64 + 7 * (nI p).toNatClampNeg + 1 + t)) ((nI i * 4) + nI b).toNatClampNeg v) → f_School_done (0 : Int32) I119 J (fun r122 I122 J122 => Q r122 I122 J122) := by
  have hP := (h.1 p hp).1
  rw [ht] at hP
  have h14 := (hP.2.2.row4 hz).1
  rw [l4, pk_mul, nI_add, nI_clamp (by omega), nI_clamp (by omega), vpN (by omega), vpN (by omega)]
  refine ⟨hp, by omega, fun I1 e1 => ?_⟩
  unfold setA at q
  rw [nI_clamp (by omega)] at q
  have ht23 : t = 2 ∨ t = 3 := by rcases hc with h | h <;> omega
  exact q.don ⟨fun j hj => by rw [e1, sI_n _ _ (by omega)], fun _ _ => rfl⟩ (h.setX hp ht hz hr hy h1 h2 h3 h4 hc e1)
theorem AbsM.setX {p i b t : Nat} {A : AM} {z : Option ROW × Nat} {r : ROW} {y y' : Option Nat × Nat} {v : Int32} {I I1 : MI} {J : MJ} {σ : SG} (h : AbsM I J σ) (hp : p < 16) (ht : σ.1 p = some (.inl A)) (hz : A.2.2[i]? = some z) (hr : z.1 = some r) (hy : r[b]? = some y) (h1 : ∀ t, y'.1 = some t → t < aN A) (h2 : A.1 < 2 → y'.1 ≠ none) (h3 : y'.2 ≤ 3) (h4 : A.1 ≠ 3 → y'.2 = 0) (hc : (t = 189 ∧ v = enO y'.1 ∧ y'.2 = y.2) ∨ (t = 190 ∧ v = nI y'.2 ∧ y'.1 = y.1)) (e1 : I1 = sI I t (upd (I t) (4 * (14 * p + i) + b) v)) : AbsM I1 J (setF (setD σ p (some (.inl (setX A i b y')))) p (σ.2.1 p)) := by
  have hP := (h.1 p hp).1
  rw [ht] at hP
  obtain ⟨g1, g2, g3⟩ := hP
  have h14 := (g3.row4 hz).1
  have hb := (g3.row4 hz).2 r hr
  have hbr := (List.getElem?_eq_some_iff.mp hy).1
  obtain ⟨k1, k2⟩ := ((g2.2.2.2 i z hz).2.2 r hr).2 b y hy
  have ht23 : t = 189 ∨ t = 190 := by rcases hc with h | h <;> omega
  have hI : ∀ j, j ≠ 189 → j ≠ 190 → I1 j = I j := fun j u1 u2 => by rw [e1, sI_n _ _ (by omega)]
  have f2 : ∀ j, I1 189 j = if j = 4 * (14 * p + i) + b then enO y'.1 else I 189 j := fun j => by
    rcases hc with ⟨rfl, hc1, hc2⟩ | ⟨rfl, hc1, hc2⟩
    · rw [e1, sI_s, upd_at, hc1]
    · rw [e1, sI_n _ _ (by omega)]
      split
      · rename_i hj; rw [hj, k1, hc2]
      · rfl
  have f3 : ∀ j, j ≠ 4 * (14 * p + i) + b → I1 190 j = I 190 j := fun j hj => by
    rcases hc with ⟨rfl, hc1, hc2⟩ | ⟨rfl, hc1, hc2⟩
    · rw [e1, sI_n _ _ (by omega)]
    · rw [e1, sI_s, upd_at, if_neg hj]
  have f4 : A.1 = 3 → I1 190 (4 * (14 * p + i) + b) = nI y'.2 := fun hk => by
    rcases hc with ⟨rfl, hc1, hc2⟩ | ⟨rfl, hc1, hc2⟩
    · rw [e1, sI_n _ _ (by omega), k2 hk, hc2]
    · rw [e1, sI_s, upd_at, if_pos rfl, hc1]
  exact h.mach hp ht (fun j hj => hI j (by omega) (by omega)) (fun j hj => by rw [hI 187 (by omega) (by omega), hI 188 (by omega) (by omega)]; exact ⟨rfl, rfl⟩) (fun j hj => ⟨by rw [f2, if_neg (by omega)], f3 j (by omega)⟩) rfl (g2.setX g3 hz hr hbr hI f2 f3 f4) (setX_VA g3 hz hr h1 h2 h3 h4)
theorem M_takeEnd {p i b t : Nat} {A : AM} {z : Option ROW × Nat} {r : ROW} {y y' : Option Nat × Nat} {v : Int32} {I : MI} {J : MJ} {σ : SG} {Q : Int32 → MI → MJ → Prop} (h : AbsM I J σ) (hp : p < 16) (ht : σ.1 p = some (.inl A)) (hz : A.2.2[i]? = some z) (hr : z.1 = some r) (hy : r[b]? = some y) (hb : b < 4) (h1 : ∀ t, y'.1 = some t → t < aN A) (h2 : A.1 < 2 → y'.1 ≠ none) (h3 : y'.2 ≤ 3) (h4 : A.1 ≠ 3 → y'.2 = 0) (hc : (t = 189 ∧ v = enO y'.1 ∧ y'.2 = y.2) ∨ (t = 190 ∧ v = nI y'.2 ∧ y'.1 = y.1)) (q : KM I J (don 0 (setA σ (nI p) (setX A i b y'))) Q) : f_Model_spot (nI p) (nI i) (nI b) I J (fun r91 I91 J91 => vp_in r91 1120 ∧ ∀ I96 : MI, I96 = sI I91 t (upd (I91 t) r91.toNatClampNeg v) → f_Model_done (0 : Int32) I96 J91 (fun r99 I99 J99 => Q r99 I99 J99)) := by
  have hP := (h.1 p hp).1
  rw [ht] at hP
  have h14 := (hP.2.2.row4 hz).1
  rw [spotN, nI_clamp (by omega), vpN (by omega)]
  refine ⟨by omega, fun I1 e1 => ?_⟩
  unfold setA at q
  rw [nI_clamp (by omega)] at q
  have ht23 : t = 189 ∨ t = 190 := by rcases hc with h | h <;> omega
  exact q.don ⟨fun j hj => by rw [e1, sI_n _ _ (by omega)], fun _ _ => rfl⟩ (h.setX hp ht hz hr hy h1 h2 h3 h4 hc e1)
theorem opTake_ok {x s a : Int32} {t : Int32} {σ : SG} {A : AM} {i b : Nat} {y : Option Nat × Nat} (e : maC σ x = some A) (hs : s = nI i) (hi : i < 14) (ha : a = nI b) (hb : b < 4) (hx : tX A i a = some y) (h0 : fTk A s a = 0) (h1 : ¬ (t < -1 ∨ nI (aN A) ≤ t)) (h2 : ¬ (t = -1 ∧ A.1 < 2)) : opTake x s a t σ = don 0 (setA σ x (setX A i b (if t = -1 then none else some t.toNatClampNeg, y.2))) := by
  unfold opTake
  rw [e]
  simp only
  rw [if_neg (by simp [h0]), if_neg h1, if_neg h2, hs, nI_clamp (by omega), hx, ha, nI_clamp (by omega)]
  rfl
theorem opAct_ok {x s a : Int32} {t : Int32} {σ : SG} {A : AM} {i b : Nat} {y : Option Nat × Nat} (e : maC σ x = some A) (hs : s = nI i) (hi : i < 14) (ha : a = nI b) (hb : b < 4) (hx : tX A i a = some y) (hk : A.1 = 3) (h0 : fTk A s a = 0) (h1 : ¬ (t < 0 ∨ 3 < t)) : opAct x s a t σ = don 0 (setA σ x (setX A i b (y.1, t.toNatClampNeg))) := by
  unfold opAct
  rw [e]
  simp only
  rw [if_neg (by simp [hk]), if_neg (by simp [h0]), if_neg h1, hs, nI_clamp (by omega), hx, ha, nI_clamp (by omega)]
  rfl
