/-! LEAST machines -/
def nxM (A : AM) (x a : Nat) : Option Nat := (dl A (x / 4, x % 4) a).map (fun q => q.1 * 4 + q.2)
def anM (A : AM) (x : Nat) : Nat := anS A (x / 4)
def ndM (A : AM) : List Nat := bfB (nxM A) A.2.1 0 14
def grt (A : AM) : Prop := 14 < (ndM A).length
theorem isKs_ex (n K : Nat) (to : Nat → Nat → Option Nat) : ∃ k, isKs n K to k := by
  obtain ⟨k, h1, h2⟩ := pk_least (fun k => 1 ≤ k ∧ ∀ i a, i < n → a < K → to i a ≠ none → a < k) ⟨K + 1, by omega, fun i a _ ha _ => by omega⟩
  refine ⟨k, h1.1, h1.2, ?_⟩
  by_cases e : k = 1
  · exact Or.inl e
  · refine Or.inr ?_
    by_cases hx : ∃ i, i < n ∧ k - 1 < K ∧ to i (k - 1) ≠ none
    · exact hx
    · have := h1.1
      refine absurd ⟨by omega, fun i a hi ha hn => ?_⟩ (h2 (k - 1) (by omega))
      have hlt := h1.2 i a hi ha hn
      by_cases hak : a = k - 1
      · subst hak; exact absurd ⟨i, hi, ha, hn⟩ hx
      · omega
noncomputable section
def ksN (n K : Nat) (to : Nat → Nat → Option Nat) : Nat := Classical.choose (isKs_ex n K to)
def leastA (A : AM) : AM := gMk (ndM A).length (toL (nxM A) (ndM A)) (anL (anM A) (ndM A)) (eqN (toL (nxM A) (ndM A)) (anL (anM A) (ndM A)) A.2.1) (ksN (ndM A).length A.2.1 (toL (nxM A) (ndM A)))
end
theorem ksN_s (n K : Nat) (to : Nat → Nat → Option Nat) : isKs n K to (ksN n K to) := Classical.choose_spec (isKs_ex n K to)
theorem nxM_P {A : AM} (hv : VA A) {x a k : Nat} (hx : x < aN A * 4) (h : nxM A x a = some k) : k < aN A * 4 := by
  unfold nxM at h
  cases hd : dl A (x / 4, x % 4) a with
  | none => rw [hd] at h; cases h
  | some q =>
    rw [hd] at h
    cases h
    obtain ⟨h1, h2, _⟩ := dl_ok hv (show (x / 4, x % 4).2 < 4 from Nat.mod_lt _ (by decide)) hd
    show q.1 * 4 + q.2 < _
    omega
theorem ndM_P {A : AM} (hv : VA A) {x : Nat} (h : x ∈ ndM A) : x < aN A * 4 := bfB_inv (P := fun x => x < aN A * 4) (by have := hv.n1; omega) (fun x a k hx _ hk => nxM_P hv hx hk) 14 x h
theorem ndM_1 (A : AM) : 1 ≤ (ndM A).length := by
  have := (List.getElem?_eq_some_iff.mp (bfB_k0 (nxM A) A.2.1 0 14)).1
  show 0 < (bfB (nxM A) A.2.1 0 14).length
  exact this
theorem anM_7 {A : AM} (hv : VA A) {x : Nat} (h : x ∈ ndM A) : anM A x ≤ 7 := anS_8 hv (by have := ndM_P hv h; omega)
theorem gMk_VL {n K : Nat} {to : Nat → Nat → Option Nat} {an : Nat → Nat} {R : Nat → Nat → Prop} {k : Nat} (hR : Eqv R) (h7 : ∀ i, i < n → an i ≤ 7) (hk : k ≤ K) (hK : K ≤ 4) (hk1 : 1 ≤ k) (hc : ∀ i a j, i < n → a < K → to i a = some j → j < n) (h1 : 1 ≤ n) (h14 : cr R n ≤ 14) : VL (gMk n to an R k) := by
  have hf := qsG_full hR h7 hk hc
  rw [← qsG_len (n := n) (to := to) (an := an) (R := R) (k := k)] at hf
  exact hf.va (by rw [qsG_len]; exact cr_1 h1) (by rw [qsG_len]; exact h14) hk1 (by omega)
theorem leastA_VL {A : AM} (hv : VA A) (hg : ¬ grt A) : VL (leastA A) := by
  have hK := hv.2.2.1
  have hs := ksN_s (ndM A).length A.2.1 (toL (nxM A) (ndM A))
  refine gMk_VL (K := A.2.1) (eqN_e _ _ _) (fun i hi => ?_) (isKs_4 hs hv.2.1) hK hs.1 (fun i a j _ _ h => toL_lt h) (ndM_1 A) ?_
  · rw [anL_of (List.getElem?_eq_getElem hi)]
    exact anM_7 hv (List.getElem_mem _)
  · have := cr_le (eqN (toL (nxM A) (ndM A)) (anL (anM A) (ndM A)) A.2.1) (ndM A).length
    unfold grt at hg
    omega
/-- only the chart and one machine have changed -/
def LfS (o : Nat) (I I' : MI) : Prop := ∀ i, (i < 2 ∨ 12 ≤ i) → (i < o ∨ o + 4 < i) → I' i = I i
theorem c_least {o o2 : Nat} {A : AM} {I : MI} {J : MJ} {Q : Int32 → MI → MJ → Prop} (ho : 12 ≤ o) (ho2 : 12 ≤ o2) (hA : RepC I o A) (hv : VA A) (hH : HaS I) (q0 : grt A → ∀ I', (∀ i, (i < 2 ∨ 12 ≤ i) → I' i = I i) → HaS I' → Q 0 I' J) (q1 : ¬ grt A → ∀ I', LfS o2 I I' → HaS I' → RepC I' o2 (leastA A) → Q 1 I' J) : f_Chart_makeLeast o o2 I J Q := by
  unfold f_Chart_makeLeast
  rw [hA.2.2.1, l14]
  have hK := hv.2.2.1
  have hn14 := hv.2.2.2.2.1
  have hrep : ∀ I', Chk I I' → RepC I' o A := fun I' h => hA.kp (fun i a b => h.1 i (by omega) (by omega) (by omega) (by omega) (by omega) (by omega))
  refine ex_M (nx := nxM A) (an := anM A) (k0 := 0) (P := fun x => x < aN A * 4) hH hK (by decide) (by decide) (by have := hv.n1; omega) (fun x a k hx _ hk => nxM_P hv hx hk) (fun x hx => by omega) (fun I' R _ h => h) (fun I' R x a hc hx ha h => ?_) (fun I' R x hc hx h => ?_) (fun hl I' hc hh => ?_) (fun hl I' hc hC hT => ?_)
  · have e : nI x = nI (x / 4 * 4 + x % 4) := by rw [show x / 4 * 4 + x % 4 = x by omega]
    rw [e, s_next (hrep I' hc) hv (by omega) (by omega) (by omega)]
    have e2 : enP (dl A (x / 4, x % 4) a) = enO (nxM A x a) := by
      unfold nxM
      cases dl A (x / 4, x % 4) a <;> rfl
    rw [e2]
    exact h
  · have e : nI x = enP (some (x / 4, x % 4)) := by show nI x = nI (x / 4 * 4 + x % 4); rw [show x / 4 * 4 + x % 4 = x by omega]
    rw [e, s_ansAt (hrep I' hc) hv (fun q hq => by cases hq; exact ⟨by show x / 4 < _; omega, by show x % 4 < _; omega⟩)]
    exact h
  · rw [if_pos rfl]
    exact q0 hl I' (fun i hi => hc.1 i (by omega) (by omega) (by omega) (by omega) (by omega) (by omega)) hh
  · rw [if_neg (by decide)]
    have hg : ¬ grt A := fun h => by have : 14 < (ndM A).length := h; have : (ndM A).length ≤ 14 := hl; omega
    have gr : GrS I' (ndM A).length A.2.1 (toL (nxM A) (ndM A)) (anL (anM A) (ndM A)) := ch_gr hC hT hK (ndM_1 A) (fun x hx => anM_7 hv hx)
    have hcr := cr_le (eqN (toL (nxM A) (ndM A)) (anL (anM A) (ndM A)) A.2.1) (ndM A).length
    have hl' : (ndM A).length ≤ 14 := hl
    refine g_nodes gr (fun h15 => by omega) (fun h14 I2 e2 go2 fo2 f2 => ?_)
    refine g_used (e2.gr gr) (fun k hk => ?_)
    have hkk : k = ksN (ndM A).length A.2.1 (toL (nxM A) (ndM A)) := isKs_u hk (ksN_s _ _ _)
    subst hkk
    refine g_write ho2 (e2.gr gr) (eqN_e _ _ _) go2 fo2 f2 h14 (isKs_4 hk hv.2.1) (fun I3 e3 r3 => ?_)
    have hC2 : HaS I2 := hC.has.kp ⟨e2.2 0 (by decide), e2.1 4 (by decide) (by decide) (by decide) (by decide), e2.1 5 (by decide) (by decide) (by decide) (by decide)⟩
    refine q1 hg I3 (fun i h1 h2 => ?_) (hC2.kp ⟨by rw [e3 2 (by omega)], e3 4 (by omega), e3 5 (by omega)⟩) r3
    rw [e3 i h2, e2.1 i (by omega) (by omega) (by omega) (by omega), hc.1 i (by omega) (by omega) (by omega) (by omega) (by omega) (by omega)]
