/-! Simple methods. -/
theorem AbsS.fn {I : MI} {J : MJ} {σ : SG} (h : AbsS I J σ) (v : Int32) : AbsS (sI I 0 (upd (I 0) 8 v)) J (fnd σ v) := by
  obtain ⟨h1, h2, h3, h4, h5⟩ := h
  have e : ∀ i, i ≠ 0 → sI I 0 (upd (I 0) 8 v) i = I i := fun i hi => sI_n _ _ hi
  refine ⟨fun p hp => ⟨(h1 p hp).1.kp ?_ (fun i a b => e i (by omega)) rfl, (h1 p hp).2.kp ?_⟩, ?_, h3.kp (fun i a b => e i (by omega)) (fun i a b => rfl), h4.kp (fun i a b => e i (by omega)) rfl, h5.kp ⟨by rw [e 2 (by omega)], e 4 (by omega), e 5 (by omega)⟩⟩
  · rw [e _ (by omega)]; exact ⟨rfl, rfl, rfl⟩
  · rw [e _ (by omega)]; exact ⟨rfl, rfl⟩
  · rw [sI_s]; simp [upd, fnd]
theorem FrS.fn {I : MI} {J : MJ} (v : Int32) : FrS I (sI I 0 (upd (I 0) 8 v)) J J := ⟨fun i hi => sI_n _ _ (by omega), fun _ _ => rfl⟩
theorem FrM.fn {I : MI} {J : MJ} (v : Int32) : FrM I (sI I 177 (upd (I 177) 13 v)) J J := ⟨fun i hi => sI_n _ _ (by omega), fun _ _ => rfl⟩
/-- model regions -/
def MEq (I I' : MI) (q : Nat) : Prop := I' 184 q = I 184 q ∧ I' 185 q = I 185 q ∧ I' 186 q = I 186 q ∧ (∀ s, s < 14 → I' 187 (14 * q + s) = I 187 (14 * q + s) ∧ I' 188 (14 * q + s) = I 188 (14 * q + s)) ∧ ∀ s a, s < 14 → a < 4 → I' 189 (4 * (14 * q + s) + a) = I 189 (4 * (14 * q + s) + a) ∧ I' 190 (4 * (14 * q + s) + a) = I 190 (4 * (14 * q + s) + a)
theorem VA.row4 {A : AM} (h : VA A) {s : Nat} {q : Option ROW × Nat} (hq : A.2.2[s]? = some q) : s < 14 ∧ ∀ r, q.1 = some r → r.length ≤ 4 := by
  obtain ⟨-, -, h3, -, h5, h6⟩ := h
  refine ⟨by have := (List.getElem?_eq_some_iff.mp hq).1; unfold aN at h5; omega, fun r hr => ?_⟩
  have := ((h6 q (List.mem_of_getElem? hq)).2.2 r hr).1
  omega
theorem RepM.kp {I I' : MI} {m : Nat} {A : AM} (h : RepM I m A) (hv : VA A) (e : MEq I I' m) : RepM I' m A := by
  obtain ⟨h1, h2, h3, h4⟩ := h
  obtain ⟨e1, e2, e3, e4, e5⟩ := e
  refine ⟨by rw [e1]; exact h1, by rw [e2]; exact h2, by rw [e3]; exact h3, fun s q hq => ?_⟩
  obtain ⟨g1, g2, g3⟩ := h4 s q hq
  obtain ⟨hs, hr⟩ := hv.row4 hq
  refine ⟨by rw [(e4 s hs).1]; exact g1, fun hn => by rw [(e4 s hs).2]; exact g2 hn, fun r hr' => ⟨by rw [(e4 s hs).2]; exact (g3 r hr').1, fun a x hx => ?_⟩⟩
  have ha : a < 4 := by have := (List.getElem?_eq_some_iff.mp hx).1; have := hr r hr'; omega
  obtain ⟨k1, k2⟩ := (g3 r hr').2 a x hx
  exact ⟨by rw [(e5 s a hs ha).1]; exact k1, fun hk => by rw [(e5 s a hs ha).2]; exact k2 hk⟩
theorem PlM.kp {I I' : MI} {J J' : MJ} {p : Nat} {t : TH} (h : PlM I J p t) (e0 : I' 178 p = I 178 p ∧ I' 179 p = I 179 p ∧ I' 181 p = I 181 p) (e : MEq I I' p) (ej : ∀ i, i < 8 → J' 180 (8 * p + i) = J 180 (8 * p + i)) : PlM I' J' p t := by
  match t, h with
  | none, h => exact e0.1.trans h
  | some (.inl A), h => exact ⟨e0.1.trans h.1, h.2.1.kp h.2.2 e, h.2.2⟩
  | some (.inr t), h =>
    refine ⟨e0.1.trans h.1, h.2.1.kp h.2.2.1.2.1.1 e, h.2.2.1, e0.2.1.trans h.2.2.2.1, e0.2.2.trans h.2.2.2.2.1, fun i w hw => ?_⟩
    have : i < 8 := by have := (List.getElem?_eq_some_iff.mp hw).1; have := h.2.2.1.2.2.2.1; omega
    rw [ej i this]
    exact h.2.2.2.2.2 i w hw
theorem FaM.kp {I I' : MI} {p : Nat} {t : Option Int32} (h : FaM I p t) (e : I' 183 p = I 183 p ∧ I' 182 p = I 182 p) : FaM I' p t := by
  match t, h with
  | none, h => exact e.1.trans h
  | some n, h => exact ⟨e.1.trans h.1, e.2.trans h.2⟩
theorem mkG_VA {S : AM} {ah bh : List (List Nat)} (hS : VL S) (h1 : 1 ≤ ah.length) (h2 : ah.length ≤ 14) (ha : ∀ w ∈ ah, (run S (0, 0) w).isSome) (hc : ∀ w ∈ ah, ∀ a, a < S.2.1 → (run S (0, 0) (w ++ [a])).isSome → (likeA S ah bh (w ++ [a])).isSome) : VA (mkG S ah bh) := (mkG_VL hS h1 h2 ha).1
theorem PuM.kp {I I' : MI} {J J' : MJ} {t : Option PU} (h : PuM I J t) (e : ∀ k, k ≠ 13 → I' 177 k = I 177 k) (ej : J' 177 55 = J 177 55) (e1 : MEq I I' 16) (e2 : MEq I I' 17) (ej1 : J' 215 = J 215) (ej2 : J' 216 = J 216) : PuM I' J' t := by
  match t, h with
  | none, h => show I' 177 49 = 0; rw [e 49 (by omega)]; exact h
  | some P, h =>
    obtain ⟨g1, g2, g3, g4, g5, g6, g7, g8, g9, g10, g11⟩ := h
    obtain ⟨v1, v2, v3, v4, v5, v6, v7, v8, v9, v10⟩ := id g11
    refine ⟨by rw [e 49 (by omega)]; exact g1, by rw [e 50 (by omega)]; exact g2, by rw [e 53 (by omega)]; exact g3, by rw [e 54 (by omega)]; exact g4, by rw [e 56 (by omega)]; exact g5, by rw [ej]; exact g6, g7.kp v1.1 e1, g8.kp (mkG_VA v1 ?_ v5 (fun w hw => (v7 w hw).2) v10) e2, by rw [ej1]; exact g9, by rw [ej2]; exact g10, g11⟩
    have := (List.getElem?_eq_some_iff.mp v3).1
    omega
theorem KnM.kp {I I' : MI} {J J' : MJ} {t : List (Int64 × Nat)} (h : KnM I J t) (e : I' 177 59 = I 177 59) (e1 : I' 218 = I 218) (ej : J' 217 = J 217) : KnM I' J' t := by
  unfold KnM at *
  rw [e, e1, ej]
  exact h
theorem MEq.of {I I' : MI} {q : Nat} (e : ∀ i, 184 ≤ i → i ≤ 190 → I' i = I i) : MEq I I' q := by
  unfold MEq
  rw [e 184 (by omega) (by omega), e 185 (by omega) (by omega), e 186 (by omega) (by omega), e 187 (by omega) (by omega), e 188 (by omega) (by omega), e 189 (by omega) (by omega), e 190 (by omega) (by omega)]
  exact ⟨rfl, rfl, rfl, fun _ _ => ⟨rfl, rfl⟩, fun _ _ _ _ => ⟨rfl, rfl⟩⟩
theorem AbsM.fn {I : MI} {J : MJ} {σ : SG} (h : AbsM I J σ) (v : Int32) : AbsM (sI I 177 (upd (I 177) 13 v)) J (fnd σ v) := by
  obtain ⟨h1, h2, h3, h4⟩ := h
  have e : ∀ i, i ≠ 177 → sI I 177 (upd (I 177) 13 v) i = I i := fun i hi => sI_n _ _ hi
  have e7 : ∀ k, k ≠ 13 → sI I 177 (upd (I 177) 13 v) 177 k = I 177 k := fun k hk => by rw [sI_s]; simp [upd, hk]
  refine ⟨fun p hp => ⟨(h1 p hp).1.kp ?_ (MEq.of (fun i a b => e i (by omega))) (fun _ _ => rfl), (h1 p hp).2.kp ?_⟩, ?_, h3.kp e7 rfl (MEq.of (fun i a b => e i (by omega))) (MEq.of (fun i a b => e i (by omega))) rfl rfl, h4.kp (e7 59 (by omega)) (e _ (by omega)) rfl⟩
  · rw [e 178 (by omega), e 179 (by omega), e 181 (by omega)]; exact ⟨rfl, rfl, rfl⟩
  · rw [e 183 (by omega), e 182 (by omega)]; exact ⟨rfl, rfl⟩
  · rw [sI_s]; simp [upd, fnd]
/-- one place of the class changes -/
theorem AbsS.at {I I' : MI} {J J' : MJ} {σ : SG} {p : Nat} {t : TH} {f : Option Int32} (h : AbsS I J σ) (hp : p < 16) (e : ∀ i, (i < 1 + 64 + 7 * p ∨ 1 + 64 + 7 * p + 6 < i) → i < 177 → I' i = I i) (ej : ∀ i, (i < 1 + 64 + 7 * p ∨ 1 + 64 + 7 * p + 6 < i) → i < 177 → J' i = J i) (ht : PlS I' J' (1 + 64 + 7 * p) t) (hf : FaS I' (1 + 64 + 7 * p) f) : AbsS I' J' (setF (setD σ p t) p f) := by
  obtain ⟨h1, h2, h3, h4, h5⟩ := h
  refine ⟨fun q hq => ?_, by rw [e 0 (by omega) (by omega)]; exact h2, h3.kp (fun i a b => e i (by omega) (by omega)) (fun i a b => ej i (by omega) (by omega)), h4.kp (fun i a b => e i (by omega) (by omega)) (ej _ (by omega) (by omega)), h5.kp ⟨by rw [e 2 (by omega) (by omega)], e 4 (by omega) (by omega), e 5 (by omega) (by omega)⟩⟩
  by_cases hqp : q = p
  · subst hqp
    simp only [setF, setD, if_true]
    exact ⟨ht, hf⟩
  · simp only [setF, setD, if_neg hqp]
    have hb := e (1 + 64 + 7 * q) (by omega) (by omega)
    exact ⟨(h1 q hq).1.kp (by rw [hb]; exact ⟨rfl, rfl, rfl⟩) (fun i a b => e i (by omega) (by omega)) (ej _ (by omega) (by omega)), (h1 q hq).2.kp (by rw [hb]; exact ⟨rfl, rfl⟩)⟩
theorem AbsM.at {I I' : MI} {J J' : MJ} {σ : SG} {p : Nat} {t : TH} {f : Option Int32} (h : AbsM I J σ) (hp : p < 16) (e : ∀ q, q ≠ p → q < 20 → (I' 178 q = I 178 q ∧ I' 179 q = I 179 q ∧ I' 181 q = I 181 q ∧ I' 182 q = I 182 q ∧ I' 183 q = I 183 q ∧ MEq I I' q ∧ ∀ i, i < 8 → J' 180 (8 * q + i) = J 180 (8 * q + i))) (e7 : ∀ k, k ∈ [13, 49, 50, 53, 54, 56, 59] → I' 177 k = I 177 k) (e8 : I' 218 = I 218) (ej : J' 177 55 = J 177 55 ∧ J' 215 = J 215 ∧ J' 216 = J 216 ∧ J' 217 = J 217) (ht : PlM I' J' p t) (hf : FaM I' p f) : AbsM I' J' (setF (setD σ p t) p f) := by
  obtain ⟨h1, h2, h3, h4⟩ := h
  refine ⟨fun q hq => ?_, by rw [e7 13 (by decide)]; exact h2, ?_, h4.kp (e7 59 (by decide)) e8 ej.2.2.2⟩
  · by_cases hqp : q = p
    · subst hqp
      simp only [setF, setD, if_true]
      exact ⟨ht, hf⟩
    · simp only [setF, setD, if_neg hqp]
      obtain ⟨a1, a2, a3, a4, a5, a6, a7⟩ := e q hqp (by omega)
      exact ⟨(h1 q hq).1.kp ⟨a1, a2, a3⟩ a6 a7, (h1 q hq).2.kp ⟨a5, a4⟩⟩
  · revert h3
    show PuM I J σ.2.2.2.1 → PuM I' J' σ.2.2.2.1
    generalize σ.2.2.2.1 = t
    intro h
    match t, h with
    | none, h => show I' 177 49 = 0; rw [e7 49 (by decide)]; exact h
    | some P, h =>
      obtain ⟨g1, g2, g3, g4, g5, g6, g7, g8, g9, g10, g11⟩ := h
      obtain ⟨v1, v2, v3, v4, v5, v6, v7, v8, v9, v10⟩ := id g11
      refine ⟨by rw [e7 49 (by decide)]; exact g1, by rw [e7 50 (by decide)]; exact g2, by rw [e7 53 (by decide)]; exact g3, by rw [e7 54 (by decide)]; exact g4, by rw [e7 56 (by decide)]; exact g5, by rw [ej.1]; exact g6, g7.kp v1.1 (e 16 (by omega) (by omega)).2.2.2.2.2.1, g8.kp (mkG_VA v1 ?_ v5 (fun w hw => (v7 w hw).2) v10) (e 17 (by omega) (by omega)).2.2.2.2.2.1, by rw [ej.2.1]; exact g9, by rw [ej.2.2.1]; exact g10, g11⟩
      have := (List.getElem?_eq_some_iff.mp v3).1
      omega
