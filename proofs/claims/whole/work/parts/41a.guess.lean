/-! machines whose rows are all there; the guess is one -/
def lackQ (k : Nat) (q : Option ROW × Nat) : Bool := match q.1 with
  | none => true
  | some r => r.any (fun x => x.1.isNone) || decide (r.length < k)
theorem kdOf_eq (k : Nat) (qs : List (Option ROW × Nat)) : kdOf k qs = if qs.any (lackQ k) then 2 else if qs.any (fun q => decide (1 < q.2)) then 1 else 0 := rfl
/-- rows that are there, of k takes each -/
def FullQ (n k : Nat) (qs : List (Option ROW × Nat)) : Prop := ∀ q ∈ qs, q.2 ≤ 7 ∧ ∃ r, q.1 = some r ∧ r.length = k ∧ ∀ x ∈ r, (∀ t, x.1 = some t → t < n) ∧ x.2 = 0
theorem lackQ_f {n k : Nat} {qs : List (Option ROW × Nat)} (h : FullQ n k qs) {q : Option ROW × Nat} {r : ROW} (hq : q ∈ qs) (hr : q.1 = some r) : lackQ k q = r.any (fun x => x.1.isNone) := by
  obtain ⟨_, r', e1, e2, _⟩ := h q hq
  rw [hr] at e1
  cases e1
  unfold lackQ
  rw [hr]
  simp [e2]
theorem kdOf_2 (k : Nat) (qs : List (Option ROW × Nat)) : kdOf k qs ≤ 2 := by
  rw [kdOf_eq]
  split
  · decide
  · split <;> decide
theorem FullQ.va {k : Nat} {qs : List (Option ROW × Nat)} (h : FullQ qs.length k qs) (h1 : 1 ≤ qs.length) (h14 : qs.length ≤ 14) (hk : 1 ≤ k) (hk4 : k ≤ 4) : VL (kdOf k qs, k, qs) := by
  have k2 := kdOf_2 k qs
  refine ⟨⟨by show kdOf k qs ≤ 3; omega, hk, hk4, h1, h14, fun q hq => ?_⟩, k2, fun q hq => ?_⟩
  · obtain ⟨q7, r, hr, hrl, hrx⟩ := h q hq
    refine ⟨?_, fun hlt => ⟨r, hr, hrl, fun x hx hn => ?_⟩, fun r' hr' => ?_⟩
    · show q.2 ≤ if kdOf k qs = 0 then 1 else 7
      split
      · rename_i h0
        rw [kdOf_eq] at h0
        split at h0
        · cases h0
        · split at h0
          · cases h0
          · rename_i hno
            by_cases h2 : 1 < q.2
            · exact absurd (List.any_eq_true.mpr ⟨q, hq, by simp [h2]⟩) hno
            · omega
      · exact q7
    · have hlt' : kdOf k qs < 2 := hlt
      rw [kdOf_eq] at hlt'
      split at hlt'
      · omega
      · rename_i hno
        refine hno (List.any_eq_true.mpr ⟨q, hq, ?_⟩)
        rw [lackQ_f h hq hr]
        exact List.any_eq_true.mpr ⟨x, hx, by simp [hn]⟩
    · rw [hr] at hr'
      cases hr'
      refine ⟨by show r.length ≤ k; omega, fun x hx => ?_⟩
      obtain ⟨e1, e2⟩ := hrx x hx
      exact ⟨e1, by omega, fun _ => e2⟩
  · obtain ⟨_, r, hr, hrl, _⟩ := h q hq
    exact ⟨r, hr, hrl⟩
theorem gv_dl {A : AM} (hv : VA A) {sc q : Nat × Nat} {a : Nat} (h : dl A sc a = some q) : q.1 < aN A := by
  unfold dl tkO at h
  cases hq : A.2.2[sc.1]? with
  | none => rw [hq] at h; cases h
  | some z =>
    rw [hq] at h
    cases hr : z.1 with
    | none => simp [hr] at h
    | some r =>
      simp only [Option.bind_some, hr] at h
      cases hx : r[a]? with
      | none => rw [hx] at h; cases h
      | some x =>
        rw [hx] at h
        cases hy : x.1 with
        | none => simp [hy] at h
        | some t =>
          simp [hy] at h
          obtain ⟨d, hd, e⟩ := h
          subst e
          exact (((hv.2.2.2.2.2 z (List.mem_of_getElem? hq)).2.2 r hr).2 x (List.mem_of_getElem? hx)).1 t hy
theorem gv_run {A : AM} (hv : VA A) : ∀ (w : List Nat) (sc q : Nat × Nat), sc.1 < aN A → run A sc w = some q → q.1 < aN A
  | [], sc, q, h1, h => by
    have : some sc = some q := h
    cases this
    exact h1
  | a :: w, sc, q, h1, h => by
    have h' : (dl A sc a).bind (fun q => run A q w) = some q := by
      have e : run A sc (a :: w) = (dl A sc a).bind (fun q => run A q w) := by simp [run, List.foldlM_cons]
      rw [← e]; exact h
    cases hd : dl A sc a with
    | none => rw [hd] at h'; cases h'
    | some q' =>
      rw [hd] at h'
      exact gv_run hv w q' q (gv_dl hv hd) h'
theorem gSt_full {S : AM} {ah bh : List (List Nat)} (hS : VL S) (ha : ∀ w ∈ ah, (run S (0, 0) w).isSome) : FullQ ah.length S.2.1 (gSt S ah bh) := by
  intro q hq
  obtain ⟨w, hw, rfl⟩ := List.mem_map.mp hq
  refine ⟨?_, _, rfl, by simp, fun x hx => ?_⟩
  · show ansF S (0, 0) w ≤ 7
    obtain ⟨z, hz⟩ := Option.isSome_iff_exists.mp (ha w hw)
    have h1 := gv_run hS.1 w (0, 0) z hS.1.2.2.2.1 hz
    have h2 : S.2.2[z.1]? = some (S.2.2[z.1]'h1) := List.getElem?_eq_getElem h1
    unfold ansF
    rw [hz]
    show anS S z.1 ≤ 7
    unfold anS
    rw [h2]
    show (S.2.2[z.1]'h1).2 ≤ 7
    have := (hS.1.2.2.2.2.2 _ (List.getElem_mem h1)).1
    split at this <;> omega
  · obtain ⟨a, ha', rfl⟩ := List.mem_map.mp hx
    refine ⟨fun t ht => ?_, rfl⟩
    simp only at ht
    split at ht
    · unfold likeA at ht
      exact (List.findIdx?_eq_some_iff_getElem.mp ht).1
    · cases ht
theorem gSt_len (S : AM) (ah bh : List (List Nat)) : (gSt S ah bh).length = ah.length := by simp [gSt]
theorem mkG_VL {S : AM} {ah bh : List (List Nat)} (hS : VL S) (h1 : 1 ≤ ah.length) (h2 : ah.length ≤ 14) (ha : ∀ w ∈ ah, (run S (0, 0) w).isSome) : VL (mkG S ah bh) := by
  have hf := gSt_full (bh := bh) hS ha
  rw [← gSt_len S ah bh] at hf
  exact hf.va (by rw [gSt_len]; exact h1) (by rw [gSt_len]; exact h2) hS.1.2.1 hS.1.2.2.1
