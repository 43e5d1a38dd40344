/-! the walk through pairs of spots -/
def prK : Option (Nat × Nat) → Nat
  | none => 0
  | some q => q.1 * 4 + q.2 + 1
def dcP (n : Nat) : Option (Nat × Nat) := if n = 0 then none else some ((n - 1) / 4, (n - 1) % 4)
theorem dc_pr {x : Option (Nat × Nat)} (h : ∀ q, x = some q → q.2 < 4) : dcP (prK x) = x := by
  cases x with
  | none => rfl
  | some q =>
    have := h q rfl
    show (if q.1 * 4 + q.2 + 1 = 0 then none else some ((q.1 * 4 + q.2 + 1 - 1) / 4, (q.1 * 4 + q.2 + 1 - 1) % 4)) = some q
    rw [if_neg (by omega), show q.1 * 4 + q.2 + 1 - 1 = q.1 * 4 + q.2 by omega, (dm4 this).1, (dm4 this).2]
def cdP (x y : Option (Nat × Nat)) : Nat := prK x * 57 + prK y
theorem pr_57 {A : AM} (hv : VA A) {x : Option (Nat × Nat)} (h : okSp A x) : prK x < 57 := by
  cases x with
  | none => decide
  | some q =>
    have h1 := h q rfl
    have h2 := hv.2.2.2.2.1
    show q.1 * 4 + q.2 + 1 < 57
    omega
theorem cd_dc {A B : AM} (hv : VA A) (hw : VA B) {x y : Option (Nat × Nat)} (hx : okSp A x) (hy : okSp B y) : dcP (cdP x y / 57) = x ∧ dcP (cdP x y % 57) = y := by
  have h1 := pr_57 hv hx
  have h2 := pr_57 hw hy
  unfold cdP
  rw [show (prK x * 57 + prK y) / 57 = prK x by omega, show (prK x * 57 + prK y) % 57 = prK y by omega]
  exact ⟨dc_pr (fun q hq => (hx q hq).2), dc_pr (fun q hq => (hy q hq).2)⟩
def nxP (A B : AM) (k a : Nat) : Option Nat := some (cdP ((dcP (k / 57)).bind (fun q => dl A q a)) ((dcP (k % 57)).bind (fun q => dl B q a)))
def badP (A B : AM) (k : Nat) : Prop := anO A (dcP (k / 57)) ≠ anO B (dcP (k % 57))
theorem nxP_cd {A B : AM} (hv : VA A) (hw : VA B) {x y : Option (Nat × Nat)} (hx : okSp A x) (hy : okSp B y) (a : Nat) : nxP A B (cdP x y) a = some (cdP (x.bind (fun q => dl A q a)) (y.bind (fun q => dl B q a))) := by
  unfold nxP
  rw [(cd_dc hv hw hx hy).1, (cd_dc hv hw hx hy).2]
theorem bind_run {A : AM} {x : Option (Nat × Nat)} {a : Nat} {w : List Nat} : x.bind (fun q => run A q (a :: w)) = (x.bind (fun q => dl A q a)).bind (fun q => run A q w) := by
  cases x with
  | none => rfl
  | some q => exact run_cons A q a w
theorem bind_nil {A : AM} {x : Option (Nat × Nat)} : x.bind (fun q => run A q []) = x := by
  cases x <;> rfl
theorem runP {A B : AM} (hv : VA A) (hw : VA B) : ∀ (v : List Nat) (x y : Option (Nat × Nat)), okSp A x → okSp B y → runK (nxP A B) (cdP x y) v = some (cdP (x.bind (fun q => run A q v)) (y.bind (fun q => run B q v)))
  | [], x, y, _, _ => by rw [bind_nil, bind_nil]; rfl
  | a :: v, x, y, hx, hy => by
    show (nxP A B (cdP x y) a).bind (fun j => runK (nxP A B) j v) = _
    rw [nxP_cd hv hw hx hy, bind_run, bind_run]
    exact runP hv hw v _ _ (okSp_dl hv hx a) (okSp_dl hw hy a)
theorem run_K {A : AM} (hv : VA A) {a : Nat} (ha : A.2.1 ≤ a) : ∀ (v : List Nat) (x : Option (Nat × Nat)), a ∈ v → x.bind (fun q => run A q v) = none
  | [], x, h => by cases h
  | b :: v, x, h => by
    rw [bind_run]
    rcases List.mem_cons.mp h with e | h
    · subst e
      have : x.bind (fun q => dl A q a) = none := by
        cases x with
        | none => rfl
        | some q => exact dl_k hv ha
      rw [this]
      rfl
    · exact run_K hv ha v _ h
/-- what the pairs tell -/
theorem P_iff {A B : AM} (hv : VA A) (hw : VA B) {x y : Option (Nat × Nat)} (hx : okSp A x) (hy : okSp B y) {K : Nat} (hA : A.2.1 ≤ K) (hB : B.2.1 ≤ K) : ∀ v : List Nat, (∀ a ∈ v, a < 4) → (anO A (x.bind (fun q => run A q v)) ≠ anO B (y.bind (fun q => run B q v)) ↔ (∀ a ∈ v, a < K) ∧ ∃ k, runK (nxP A B) (cdP x y) v = some k ∧ badP A B k) := by
  intro v _
  have hr := runP hv hw v x y hx hy
  have hd := cd_dc hv hw (okSp_run hv hx v) (okSp_run hw hy v)
  constructor
  · intro h
    refine ⟨fun a ha => ?_, _, hr, by unfold badP; rw [hd.1, hd.2]; exact h⟩
    by_cases hK : a < K
    · exact hK
    · rw [run_K hv (by omega) v x ha, run_K hw (by omega) v y ha] at h
      exact absurd rfl h
  · rintro ⟨_, k, h1, h2⟩
    rw [hr] at h1
    cases h1
    unfold badP at h2
    rw [hd.1, hd.2] at h2
    exact h2
/-- a finite set of spots that a machine doesn't leave -/
def SpS (A : AM) (P : Nat × Nat → Prop) (ix : Nat × Nat → Nat) : Prop := (∀ q, P q → q.1 < aN A ∧ q.2 < 4 ∧ ix q < 14) ∧ (∀ q r, P q → P r → ix q = ix r → q = r) ∧ ∀ q a t, P q → dl A q a = some t → P t
theorem SpS.firm {A : AM} (hv : VA A) (h3 : A.1 ≠ 3) : SpS A (okS A) (fun q => q.1) := by
  refine ⟨fun q hq => ⟨hq.1, hq.2.1, by have := hv.2.2.2.2.1; have := hq.1; show q.1 < 14; omega⟩, fun q r hq hr e => Prod.ext e (by rw [hq.2.2 h3, hr.2.2 h3]), fun q a t hq ht => okS_dl hv hq ht⟩
theorem SpS.nodes {A : AM} (hv : VA A) (hg : ¬ grt A) : SpS A (fun q => q.2 < 4 ∧ q.1 * 4 + q.2 ∈ ndM A) (fun q => ((ixL (ndM A) (q.1 * 4 + q.2)).getD 0)) := by
  have hl : (ndM A).length ≤ 14 := by unfold grt at hg; omega
  have key : ∀ q : Nat × Nat, q.1 * 4 + q.2 ∈ ndM A → ∃ j, (ndM A)[j]? = some (q.1 * 4 + q.2) ∧ ixL (ndM A) (q.1 * 4 + q.2) = some j := fun q hq => by
    obtain ⟨j, hj⟩ := List.mem_iff_getElem?.mp hq
    exact ⟨j, hj, ixL_of (bfB_nd _ _ _ _) hj⟩
  refine ⟨fun q hq => ?_, fun q r hq hr e => ?_, fun q a t hq ht => ?_⟩
  · obtain ⟨j, h1, h2⟩ := key q hq.2
    have hj := (List.getElem?_eq_some_iff.mp h1).1
    have hP := ndM_P hv hq.2
    refine ⟨by have := hq.1; omega, hq.1, ?_⟩
    show ((ixL (ndM A) (q.1 * 4 + q.2)).getD 0) < 14
    rw [h2]
    show j < 14
    omega
  · obtain ⟨j, h1, h2⟩ := key q hq.2
    obtain ⟨j', h1', h2'⟩ := key r hr.2
    have e' : ((ixL (ndM A) (q.1 * 4 + q.2)).getD 0) = ((ixL (ndM A) (r.1 * 4 + r.2)).getD 0) := e
    rw [h2, h2'] at e'
    have ej : j = j' := e'
    rw [ej, h1'] at h1
    have := Option.some.inj h1
    exact code_inj hq.1 hr.1 this.symm
  · have hq4 := hq.1
    obtain ⟨t1, t2, t3⟩ := dl_ok hv hq4 ht
    refine ⟨t2, ?_⟩
    have hn : nxM A (q.1 * 4 + q.2) a = some (t.1 * 4 + t.2) := by
      unfold nxM
      rw [(dm4 hq4).1, (dm4 hq4).2, ht]
      rfl
    have hl' : (bfB (nxM A) A.2.1 0 14).length ≤ 14 := hl
    exact bfB_closed hl' hq.2 t3 hn
