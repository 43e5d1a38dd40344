/-! a LEAST machine answers as the machine does -/
theorem ansF_nil (A : AM) (sc : Nat × Nat) : ansF A sc [] = anS A sc.1 := rfl
theorem ansF_cons (A : AM) (sc : Nat × Nat) (a : Nat) (w : List Nat) : ansF A sc (a :: w) = match dl A sc a with | none => 8 | some q => ansF A q w := by
  rw [ansF_o, run_cons]
  cases h : dl A sc a with
  | none => rfl
  | some q => show anO A (run A q w) = ansF A q w; rw [ansF_o]
theorem ansN_F {A : AM} (hv : VA A) (hg : ¬ grt A) : ∀ (w : List Nat) (i x : Nat), (ndM A)[i]? = some x → ansN (toA A) (anA A) i w = ansF A (x / 4, x % 4) w
  | [], i, x, hx => by
    rw [ansF_nil]
    exact anL_of hx
  | a :: w, i, x, hx => by
    rw [ansN_c, ansF_cons]
    cases hd : dl A (x / 4, x % 4) a with
    | none =>
      have hn : nxM A x a = none := by unfold nxM; rw [hd]; rfl
      rw [show toA A i a = none from toL_none hx hn]
    | some q =>
      obtain ⟨q1, q2, q3⟩ := dl_ok hv (show (x / 4, x % 4).2 < 4 from Nat.mod_lt _ (by decide)) hd
      have hn : nxM A x a = some (q.1 * 4 + q.2) := by unfold nxM; rw [hd]; rfl
      have hl : (bfB (nxM A) A.2.1 0 14).length ≤ 14 := by unfold grt ndM at hg; omega
      have hmem := bfB_closed hl (show x ∈ bfB (nxM A) A.2.1 0 14 from List.mem_of_getElem? hx) q3 hn
      obtain ⟨j, hj⟩ := List.mem_iff_getElem?.mp hmem
      have hj' : (ndM A)[j]? = some (q.1 * 4 + q.2) := hj
      rw [show toA A i a = some j from toL_some (bfB_nd _ _ _ _) hx hn hj']
      show ansN (toA A) (anA A) j w = ansF A q w
      rw [ansN_F hv hg w j _ hj', (dm4 q2).1, (dm4 q2).2]
theorem dl_0 {A : AM} {s a : Nat} {x : Option Nat × Nat} (h : tkO A s a = some x) (h0 : x.2 = 0) (c : Nat) : dl A (s, c) a = x.1.map (fun t => (t, c)) := by
  unfold dl
  rw [h]
  simp only [Option.bind_some, h0]
  cases x.1 with
  | none => rfl
  | some t => rfl
theorem dl_no {A : AM} {s a : Nat} (h : tkO A s a = none) (c : Nat) : dl A (s, c) a = none := by
  unfold dl
  rw [h]
  rfl
/-- a machine of groups -/
theorem gMk_tk {n : Nat} {to : Nat → Nat → Option Nat} {an : Nat → Nat} {R : Nat → Nat → Prop} {k u r a : Nat} (hr : (rpL R n)[u]? = some r) : tkO (gMk n to an R k) u a = if a < k then some ((to r a).map (cls R), 0) else none := by
  have hq : (gMk n to an R k).2.2[u]? = some (some ((List.range k).map (fun a => ((to r a).map (cls R), 0))), an r) := by
    show (qsG n to an R k)[u]? = _
    unfold qsG
    rw [List.getElem?_map, hr]
    rfl
  rw [tkO_of hq rfl]
  by_cases h : a < k
  · rw [if_pos h]
    simp [List.getElem?_map, List.getElem?_range h]
  · rw [if_neg h]
    simp
    omega
theorem gMk_an {n : Nat} {to : Nat → Nat → Option Nat} {an : Nat → Nat} {R : Nat → Nat → Prop} {k u r : Nat} (hr : (rpL R n)[u]? = some r) : anS (gMk n to an R k) u = an r := by
  have hq : (gMk n to an R k).2.2[u]? = some (some ((List.range k).map (fun a => ((to r a).map (cls R), 0))), an r) := by
    show (qsG n to an R k)[u]? = _
    unfold qsG
    rw [List.getElem?_map, hr]
    rfl
  rw [anS_of hq]
theorem gMk_ans {n K : Nat} {to : Nat → Nat → Option Nat} {an : Nat → Nat} {k : Nat} (h7 : ∀ i, i < n → an i ≤ 7) (hc : ∀ i a j, i < n → a < K → to i a = some j → j < n) (hno : ∀ i a, i < n → k ≤ a → to i a = none) (hk : k ≤ K) : ∀ (w : List Nat) (i c : Nat), i < n → ansF (gMk n to an (eqN to an K) k) (cls (eqN to an K) i, c) w = ansN to an i w
  | [], i, c, hi => by
    have hE := eqN_e to an K
    have hr := rpL_of (n := n) (show rp (eqN to an K) i < n by have := (rp_spec hE i).2.2; omega) (rp_isRp hE i)
    rw [ansF_nil]
    show anS _ (cls (eqN to an K) i) = an i
    rw [show cls (eqN to an K) i = cr (eqN to an K) (rp (eqN to an K) i) from rfl, gMk_an hr]
    exact (rp_spec hE i).1 [] (by simp)
  | a :: w, i, c, hi => by
    have hE := eqN_e to an K
    have hrn : rp (eqN to an K) i < n := by have := (rp_spec hE i).2.2; omega
    have hr := rpL_of (n := n) hrn (rp_isRp hE i)
    have htk := gMk_tk (to := to) (an := an) (k := k) (a := a) hr
    rw [ansF_cons, ansN_c]
    by_cases ha : a < k
    · rw [if_pos ha] at htk
      rw [show (cls (eqN to an K) i, c) = (cr (eqN to an K) (rp (eqN to an K) i), c) from rfl, dl_0 htk rfl]
      have em := eq_map h7 hc hrn hi (show a < K by omega) (rp_spec hE i).1
      cases hto : to i a with
      | none =>
        rw [hto] at em
        cases hto2 : to (rp (eqN to an K) i) a with
        | none => rfl
        | some z => rw [hto2] at em; cases em
      | some j =>
        rw [hto] at em
        rw [em]
        show ansF _ (cls (eqN to an K) j, c) w = ansN to an j w
        exact gMk_ans h7 hc hno hk w j c (hc i a j hi (by omega) hto)
    · rw [if_neg ha] at htk
      rw [show (cls (eqN to an K) i, c) = (cr (eqN to an K) (rp (eqN to an K) i), c) from rfl, dl_no htk, hno i a hi (by omega)]
theorem cls_0 {R : Nat → Nat → Prop} (h : Eqv R) : cls R 0 = 0 := by
  have h0 : isRp R 0 := fun j hj => absurd hj (Nat.not_lt_zero _)
  rw [cls_rep h h0]
  rfl
theorem toA_K {A : AM} (hv : VA A) {i a : Nat} (ha : A.2.1 ≤ a) : toA A i a = none := by
  show toL (nxM A) (ndM A) i a = none
  unfold toL
  cases (ndM A)[i]? with
  | none => rfl
  | some x => simp [nxM_K hv x a ha]
theorem leastA_ans {A : AM} (hv : VA A) (hg : ¬ grt A) (w : List Nat) : ansF (leastA A) (0, 0) w = ansF A (0, 0) w := by
  have hs := ksN_s (ndM A).length A.2.1 (toL (nxM A) (ndM A))
  have h0 : (ndM A)[0]? = some 0 := bfB_k0 _ _ _ _
  have h1 := gMk_ans (n := (ndM A).length) (K := A.2.1) (to := toA A) (an := anA A) (k := ksN (ndM A).length A.2.1 (toL (nxM A) (ndM A))) (fun i hi => by
    show anL (anM A) (ndM A) i ≤ 7
    rw [anL_of (List.getElem?_eq_getElem hi)]
    exact anM_7 hv (List.getElem_mem _)) (fun i a j _ _ h => toL_lt h) (fun i a hi ha => ?_) (isKs_4 hs hv.2.1) w 0 0 (ndM_1 A)
  · rw [cls_0 (eqN_e _ _ _), ansN_F hv hg w 0 0 h0] at h1
    exact h1
  · by_cases haK : a < A.2.1
    · cases ht : toA A i a with
      | none => rfl
      | some j =>
        have := hs.2.1 i a hi haK (by rw [show toL (nxM A) (ndM A) i a = some j from ht]; simp)
        omega
    · exact toA_K hv (by omega)
