/-! one state of a machine changes: row, cut, take, say, act -/
def setQ (A : AM) (s : Nat) (q : Option ROW × Nat) : AM := (A.1, A.2.1, A.2.2.set s q)
theorem setQ_n (A : AM) (s : Nat) (q : Option ROW × Nat) : aN (setQ A s q) = aN A := by simp [aN, setQ]
theorem setQ_VA {A : AM} {s : Nat} {q : Option ROW × Nat} (h : VA A) (hq : VR (aN A) A.2.1 A.1 q) : VA (setQ A s q) := by
  obtain ⟨h1, h2, h3, h4, h5, h6⟩ := h
  refine ⟨h1, h2, h3, by rw [setQ_n]; exact h4, by rw [setQ_n]; exact h5, fun x hx => ?_⟩
  rw [setQ_n]
  rcases List.mem_or_eq_of_mem_set hx with h | h
  · exact h6 x h
  · rw [h]; exact hq
/-- the class' cells of one state change -/
theorem RepC.set {I I' : MI} {o s : Nat} {A : AM} {q : Option ROW × Nat} (h : RepC I o A) (hv : VA A) (hs : s < aN A) (e0 : I' o = I o) (e1 : ∀ j, j ≠ s → I' (o + 1) j = I (o + 1) j) (e4 : ∀ j, j ≠ s → I' (o + 4) j = I (o + 4) j) (e2 : ∀ j, j < s * 4 ∨ s * 4 + 4 ≤ j → I' (o + 2) j = I (o + 2) j ∧ I' (o + 3) j = I (o + 3) j) (hq : RowC I' o s q) : RepC I' o (setQ A s q) := by
  obtain ⟨h1, h2, h3, h4⟩ := h
  refine ⟨by rw [e0]; exact h1, by rw [e0, setQ_n]; exact h2, by rw [e0]; exact h3, fun t x hx => ?_⟩
  by_cases hts : t = s
  · subst hts
    have : x = q := by
      have hl : t < A.2.2.length := hs
      simp [setQ, List.getElem?_set_self hl] at hx
      exact hx.symm
    rw [this]
    exact hq
  · have hx' : A.2.2[t]? = some x := by simpa [setQ, List.getElem?_set_ne (Ne.symm hts)] using hx
    obtain ⟨g1, g2, g3⟩ := h4 t x hx'
    refine ⟨by rw [e4 t hts]; exact g1, fun hn => by rw [e1 t hts]; exact g2 hn, fun r hr => ⟨by rw [e1 t hts]; exact (g3 r hr).1, fun a y hy => ?_⟩⟩
    have ha : a < 4 := by have := (List.getElem?_eq_some_iff.mp hy).1; have := (hv.row4 hx').2 r hr; omega
    obtain ⟨k1, k2⟩ := e2 (t * 4 + a) (by omega)
    rw [k1, k2]
    exact (g3 r hr).2 a y hy
theorem RepM.set {I I' : MI} {m s : Nat} {A : AM} {q : Option ROW × Nat} (h : RepM I m A) (hv : VA A) (hs : s < aN A) (e0 : I' 184 m = I 184 m ∧ I' 185 m = I 185 m ∧ I' 186 m = I 186 m) (e1 : ∀ j, j ≠ 14 * m + s → I' 187 j = I 187 j ∧ I' 188 j = I 188 j) (e2 : ∀ j, j < 4 * (14 * m + s) ∨ 4 * (14 * m + s) + 4 ≤ j → I' 189 j = I 189 j ∧ I' 190 j = I 190 j) (hq : RowM I' m s A.1 q) : RepM I' m (setQ A s q) := by
  obtain ⟨h1, h2, h3, h4⟩ := h
  refine ⟨by rw [e0.1]; exact h1, by rw [e0.2.1, setQ_n]; exact h2, by rw [e0.2.2]; exact h3, fun t x hx => ?_⟩
  by_cases hts : t = s
  · subst hts
    have : x = q := by
      have hl : t < A.2.2.length := hs
      simp [setQ, List.getElem?_set_self hl] at hx
      exact hx.symm
    rw [this]
    exact hq
  · have hx' : A.2.2[t]? = some x := by simpa [setQ, List.getElem?_set_ne (Ne.symm hts)] using hx
    obtain ⟨g1, g2, g3⟩ := h4 t x hx'
    have k := e1 (14 * m + t) (by omega)
    refine ⟨by rw [k.1]; exact g1, fun hn => by rw [k.2]; exact g2 hn, fun r hr => ⟨by rw [k.2]; exact (g3 r hr).1, fun a y hy => ?_⟩⟩
    have ha : a < 4 := by have := (List.getElem?_eq_some_iff.mp hy).1; have := (hv.row4 hx').2 r hr; omega
    obtain ⟨k1, k2⟩ := e2 (4 * (14 * m + t) + a) (by omega)
    rw [k1, k2]
    exact (g3 r hr).2 a y hy
/-- the reference's frame, where one machine's cells alone change -/
theorem AbsM.mach {I I' : MI} {J : MJ} {σ : SG} {p : Nat} {A A' : AM} (h : AbsM I J σ) (hp : p < 16) (ht : σ.1 p = some (.inl A)) (e : ∀ i, (i < 187 ∨ 190 < i) → I' i = I i) (e1 : ∀ j, (j < 14 * p ∨ 14 * p + 14 ≤ j) → I' 187 j = I 187 j ∧ I' 188 j = I 188 j) (e2 : ∀ j, (j < 56 * p ∨ 56 * p + 56 ≤ j) → I' 189 j = I 189 j ∧ I' 190 j = I 190 j) (hk : A'.1 = A.1) (hr : RepM I' p A') (hv : VA A') : AbsM I' J (setF (setD σ p (some (.inl A'))) p (σ.2.1 p)) := by
  have hP := (h.1 p hp).1
  rw [ht] at hP
  refine h.at hp (fun q hq h20 => ⟨by rw [e 178 (by omega)], by rw [e 179 (by omega)], by rw [e 181 (by omega)], by rw [e 182 (by omega)], by rw [e 183 (by omega)], ⟨by rw [e 184 (by omega)], by rw [e 185 (by omega)], by rw [e 186 (by omega)], fun s hs => e1 _ (by omega), fun s a hs ha => e2 _ (by omega)⟩, fun _ _ => rfl⟩) (fun k _ => by rw [e 177 (by omega)]) (e 218 (by omega)) ⟨rfl, rfl, rfl, rfl⟩ ⟨by rw [e 178 (by omega), hk]; exact hP.1, hr, hv⟩ ((h.1 p hp).2.kp ⟨by rw [e 183 (by omega)], by rw [e 182 (by omega)]⟩)
theorem AbsS.mach {I I' : MI} {J : MJ} {σ : SG} {p : Nat} {A A' : AM} (h : AbsS I J σ) (hp : p < 16) (ht : σ.1 p = some (.inl A)) (e : ∀ i, (i < 1 + 64 + 7 * p + 2 ∨ 1 + 64 + 7 * p + 5 < i) → I' i = I i) (hk : A'.1 = A.1) (hr : RepC I' (1 + 64 + 7 * p + 1) A') (hv : VA A') : AbsS I' J (setF (setD σ p (some (.inl A'))) p (σ.2.1 p)) := by
  have hP := (h.1 p hp).1
  rw [ht] at hP
  have eb := e (1 + 64 + 7 * p) (by omega)
  refine h.at hp (fun i h1 h2 => e i (by omega)) (fun _ _ _ => rfl) ⟨by rw [eb, hk]; exact hP.1, hr, hv⟩ ((h.1 p hp).2.kp ⟨by rw [eb], by rw [eb]⟩)
def stQ (A : AM) (s : Nat) : Option ROW × Nat := A.2.2.getD s (none, 0)
theorem stQ_of {A : AM} {s : Nat} {q : Option ROW × Nat} (h : A.2.2[s]? = some q) : stQ A s = q := by simp [stQ, List.getD, h]
def opSay (x s v : Int32) (σ : SG) : Int32 × SG := match maC σ x with
  | none => ref (fMa σ x) σ
  | some A => match idx (aN A) s with
    | none => ref 2 σ
    | some i => if v < 0 ∨ (if A.1 = 0 then 1 else 7) < v then ref 2 σ else don 0 (setF (setD σ x.toNatClampNeg (some (.inl (setQ A i ((stQ A i).1, v.toNatClampNeg))))) x.toNatClampNeg (σ.2.1 x.toNatClampNeg))
