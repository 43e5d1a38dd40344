/-! closing: the first pair that goes on -/
def badA (S : AM) (ah bh : List (List Nat)) (i a : Nat) : Prop := ∃ w, ah[i]? = some w ∧ a < S.2.1 ∧ (run S (0, 0) (w ++ [a])).isSome ∧ likeA S ah bh (w ++ [a]) = none
def fstB (S : AM) (ah bh : List (List Nat)) (i a : Nat) : Prop := badA S ah bh i a ∧ ∀ i' a', (i' < i ∨ (i' = i ∧ a' < a)) → ¬ badA S ah bh i' a'
def ClR (S : AM) (bh : List (List Nat)) : Nat → List (List Nat) → List (List Nat) → Prop
  | 0, ah, ah' => ah' = ah ∧ ∀ i a, ¬ badA S ah bh i a
  | n + 1, ah, ah' => ∃ i a w, fstB S ah bh i a ∧ ah[i]? = some w ∧ ClR S bh n (ah ++ [w ++ [a]]) ah'
def ClE (S : AM) (bh ah ah' : List (List Nat)) : Prop := ∃ n, ClR S bh n ah ah'
theorem fstB_u {S : AM} {ah bh : List (List Nat)} {i a i' a' : Nat} (h : fstB S ah bh i a) (h' : fstB S ah bh i' a') : i = i' ∧ a = a' := by
  have k1 : ¬ (i < i' ∨ (i = i' ∧ a < a')) := fun hh => h'.2 i a hh h.1
  have k2 : ¬ (i' < i ∨ (i' = i ∧ a' < a)) := fun hh => h.2 i' a' hh h'.1
  omega
theorem ClR_u {S : AM} {bh : List (List Nat)} : ∀ (n m : Nat) (ah x y : List (List Nat)), ClR S bh n ah x → ClR S bh m ah y → x = y
  | 0, 0, ah, x, y, h, h' => by rw [h.1, h'.1]
  | 0, m + 1, ah, x, y, h, h' => by
    obtain ⟨i, a, w, hf, _⟩ := h'
    exact absurd hf.1 (h.2 i a)
  | n + 1, 0, ah, x, y, h, h' => by
    obtain ⟨i, a, w, hf, _⟩ := h
    exact absurd hf.1 (h'.2 i a)
  | n + 1, m + 1, ah, x, y, h, h' => by
    obtain ⟨i, a, w, hf, hw, hr⟩ := h
    obtain ⟨i', a', w', hf', hw', hr'⟩ := h'
    obtain ⟨rfl, rfl⟩ := fstB_u hf hf'
    rw [hw] at hw'
    cases hw'
    exact ClR_u n m _ x y hr hr'
theorem ClE_u {S : AM} {bh ah x y : List (List Nat)} (h : ClE S bh ah x) (h' : ClE S bh ah y) : x = y := by
  obtain ⟨n, hn⟩ := h
  obtain ⟨m, hm⟩ := h'
  exact ClR_u n m ah x y hn hm
noncomputable section
def clo (S : AM) (bh ah : List (List Nat)) : List (List Nat) := by classical exact if h : ∃ x, ClE S bh ah x then Classical.choose h else ah
end
theorem clo_eq {S : AM} {bh ah x : List (List Nat)} (h : ClE S bh ah x) : clo S bh ah = x := by
  have hex : ∃ x, ClE S bh ah x := ⟨x, h⟩
  unfold clo
  rw [dif_pos hex]
  exact ClE_u (Classical.choose_spec hex) h
theorem ClE.step {S : AM} {bh ah x : List (List Nat)} {i a : Nat} {w : List Nat} (hf : fstB S ah bh i a) (hw : ah[i]? = some w) (h : ClE S bh (ah ++ [w ++ [a]]) x) : ClE S bh ah x := by
  obtain ⟨n, hn⟩ := h
  exact ⟨n + 1, i, a, w, hf, hw, hn⟩
theorem ClE.stop {S : AM} {bh ah : List (List Nat)} (h : ∀ i a, ¬ badA S ah bh i a) : ClE S bh ah ah := ⟨0, rfl, h⟩
/-- what the lists keep to, before they are closed -/
def VQ (S : AM) (ah bh : List (List Nat)) : Prop := VL S ∧ ah[0]? = some [] ∧ bh[0]? = some [] ∧ (∀ w ∈ ah, wOk w ∧ (run S (0, 0) w).isSome) ∧ (∀ v ∈ bh, wOk v) ∧ (∀ (i : Nat) (w : List Nat), ah[i]? = some w → w.length ≤ i) ∧ ∀ (i j : Nat) (u w : List Nat), ah[i]? = some u → ah[j]? = some w → rowOf S bh u = rowOf S bh w → i = j
theorem rowOf_eq {S : AM} {bh : List (List Nat)} {u w : List Nat} : rowOf S bh u = rowOf S bh w ↔ ∀ v ∈ bh, ansF S (0, 0) (u ++ v) = ansF S (0, 0) (w ++ v) := by
  unfold rowOf
  exact List.map_inj_left
theorem likeA_s {S : AM} {ah bh : List (List Nat)} {u : List Nat} {t : Nat} (h : likeA S ah bh u = some t) : ∃ w, ah[t]? = some w ∧ rowOf S bh w = rowOf S bh u ∧ ∀ (j : Nat) (y : List Nat), j < t → ah[j]? = some y → rowOf S bh y ≠ rowOf S bh u := by
  unfold likeA at h
  obtain ⟨h1, h2, h3⟩ := List.findIdx?_eq_some_iff_getElem.mp h
  refine ⟨ah[t], List.getElem?_eq_getElem h1, by simpa using h2, fun j y hj hy e => ?_⟩
  have := h3 j hj
  rw [List.getElem?_eq_getElem (by omega)] at hy
  cases hy
  simp [e] at this
theorem likeA_n {S : AM} {ah bh : List (List Nat)} {u : List Nat} : likeA S ah bh u = none ↔ ∀ w ∈ ah, rowOf S bh w ≠ rowOf S bh u := by
  unfold likeA
  rw [List.findIdx?_eq_none_iff]
  constructor
  · intro h w hw e
    have := h w hw
    simp [e] at this
  · intro h w hw
    have := h w hw
    simp [this]
theorem likeA_of {S : AM} {ah bh : List (List Nat)} {u w : List Nat} {t : Nat} (hw : ah[t]? = some w) (he : rowOf S bh w = rowOf S bh u) (hf : ∀ (j : Nat) (y : List Nat), j < t → ah[j]? = some y → rowOf S bh y ≠ rowOf S bh u) : likeA S ah bh u = some t := by
  cases h : likeA S ah bh u with
  | none => exact absurd he (likeA_n.mp h w (List.mem_of_getElem? hw))
  | some t' =>
    obtain ⟨w', h1, h2, h3⟩ := likeA_s h
    rcases Nat.lt_trichotomy t t' with hl | hl | hl
    · exact absurd he (h3 t w hl hw)
    · rw [hl]
    · exact absurd h2 (hf t' w' hl h1)
theorem VQ.len {S : AM} {ah bh : List (List Nat)} (h : VQ S ah bh) : ah.length ≤ aN S := by
  obtain ⟨h1, h2, h3, h4, h5, h6, h7⟩ := h
  have hg : ∀ i, i < ah.length → ∃ w, ah[i]? = some w ∧ ah.getD i [] = w := fun i hi => by
    have := List.getElem?_eq_getElem hi
    exact ⟨_, this, by simp [List.getD, this]⟩
  refine php (aN S) ah.length (fun i => endS S (ah.getD i [])) (fun i hi => ?_) (fun i j hi hj e => ?_)
  · obtain ⟨w, w1, w2⟩ := hg i hi
    show endS S (ah.getD i []) < aN S
    rw [w2]
    exact (end_run h1 (h4 w (List.mem_of_getElem? w1)).2).2
  · obtain ⟨w, w1, w2⟩ := hg i hi
    obtain ⟨u, u1, u2⟩ := hg j hj
    have e' : endS S (ah.getD i []) = endS S (ah.getD j []) := e
    rw [w2, u2] at e'
    refine h7 i j w u w1 u1 (rowOf_eq.mpr (fun v _ => ?_))
    rw [ans_end h1 (h4 w (List.mem_of_getElem? w1)).2, ans_end h1 (h4 u (List.mem_of_getElem? u1)).2, e']
theorem VQ.add {S : AM} {ah bh : List (List Nat)} {i a : Nat} {w : List Nat} (h : VQ S ah bh) (hb : badA S ah bh i a) (hw : ah[i]? = some w) : VQ S (ah ++ [w ++ [a]]) bh := by
  have hlen := h.len
  obtain ⟨h1, h2, h3, h4, h5, h6, h7⟩ := h
  obtain ⟨w', k1, k2, k3, k4⟩ := hb
  rw [hw] at k1
  cases k1
  have hl := h6 i w hw
  have hi := (List.getElem?_eq_some_iff.mp hw).1
  have h14 := h1.1.2.2.2.2.1
  have hk4 := h1.1.2.2.1
  have hwo := (h4 w (List.mem_of_getElem? hw)).1
  refine ⟨h1, pre_get h2, h3, fun u hu => ?_, h5, fun j u hu => ?_, fun j l u y hu hy e => ?_⟩
  · rcases List.mem_append.mp hu with hu | hu
    · exact h4 u hu
    · simp at hu
      subst hu
      refine ⟨⟨by simp; omega, fun b hb => ?_⟩, k3⟩
      rcases List.mem_append.mp hb with hb | hb
      · exact hwo.2 b hb
      · simp at hb; omega
  · rcases app_get hu with ⟨u1, u2⟩ | ⟨u1, u2⟩
    · exact h6 j u u2
    · rw [u2]; simp; omega
  · have hn := likeA_n.mp k4
    rcases app_get hu with ⟨u1, u2⟩ | ⟨u1, u2⟩
    · rcases app_get hy with ⟨y1, y2⟩ | ⟨y1, y2⟩
      · exact h7 j l u y u2 y2 e
      · rw [y2] at e; exact absurd e (hn u (List.mem_of_getElem? u2))
    · rcases app_get hy with ⟨y1, y2⟩ | ⟨y1, y2⟩
      · rw [u2] at e; exact absurd e.symm (hn y (List.mem_of_getElem? y2))
      · omega
/-- what was found stays -/
theorem badA_mono {S : AM} {ah bh : List (List Nat)} {x : List Nat} {i a : Nat} (hi : i < ah.length) (h : badA S (ah ++ [x]) bh i a) : badA S ah bh i a := by
  obtain ⟨w, k1, k2, k3, k4⟩ := h
  rw [List.getElem?_append_left hi] at k1
  exact ⟨w, k1, k2, k3, likeA_n.mpr (fun u hu => likeA_n.mp k4 u (List.mem_append_left _ hu))⟩
/-- a pupil -/
theorem VP_of {S : AM} {l : Nat} {ah bh : List (List Nat)} {t : Int64} (h : VQ S ah bh) (hl : l ≤ 30) (hb : bh.length ≤ ah.length) (hc : ∀ i a, ¬ badA S ah bh i a) : VP (S, l, ah, bh, t) := by
  have hlen := h.len
  obtain ⟨h1, h2, h3, h4, h5, h6, h7⟩ := h
  have h14 := h1.1.2.2.2.2.1
  refine ⟨h1, hl, h2, h3, (by show ah.length ≤ 14; omega), hb, h4, ⟨h5, h6⟩, h7, fun w hw a ha hr => ?_⟩
  obtain ⟨i, hi⟩ := List.mem_iff_getElem?.mp hw
  cases hl' : likeA S ah bh (w ++ [a]) with
  | some t => exact (by rfl)
  | none => exact absurd ⟨w, hi, ha, hr, hl'⟩ (hc i a)
theorem VP.q {P : PU} (h : VP P) : VQ P.1 P.2.2.1 P.2.2.2.1 ∧ ∀ i a, ¬ badA P.1 P.2.2.1 P.2.2.2.1 i a := by
  obtain ⟨v1, v2, v3, v4, v5, v6, v7, v8, v9, v10⟩ := h
  refine ⟨⟨v1, v3, v4, v7, v8.1, v8.2, v9⟩, fun i a hb => ?_⟩
  obtain ⟨w, k1, k2, k3, k4⟩ := hb
  have := v10 w (List.mem_of_getElem? k1) a k2 k3
  rw [k4] at this
  cases this
