/-! how many pairs there can be -/
def PPk (PA PB : Nat × Nat → Prop) (k : Nat) : Prop := ∃ x y, k = cdP x y ∧ (∀ q, x = some q → PA q) ∧ ∀ q, y = some q → PB q
theorem SpS.ok {A : AM} {P : Nat × Nat → Prop} {ix : Nat × Nat → Nat} (h : SpS A P ix) {x : Option (Nat × Nat)} (hx : ∀ q, x = some q → P q) : okSp A x := fun q hq => ⟨(h.1 q (hx q hq)).1, (h.1 q (hx q hq)).2.1⟩
theorem SpS.dlo {A : AM} {P : Nat × Nat → Prop} {ix : Nat × Nat → Nat} (h : SpS A P ix) {x : Option (Nat × Nat)} (hx : ∀ q, x = some q → P q) (a : Nat) : ∀ t, x.bind (fun q => dl A q a) = some t → P t := fun t ht => by
  cases x with
  | none => cases ht
  | some q => exact h.2.2 q a t (hx q rfl) ht
def gP (iA iB : Nat × Nat → Nat) (k : Nat) : Nat := ((dcP (k / 57)).map (fun q => iA q + 1)).getD 0 * 15 + ((dcP (k % 57)).map (fun q => iB q + 1)).getD 0
theorem ixo {A : AM} {P : Nat × Nat → Prop} {ix : Nat × Nat → Nat} (h : SpS A P ix) {x : Option (Nat × Nat)} (hx : ∀ q, x = some q → P q) : (x.map (fun q => ix q + 1)).getD 0 < 15 := by
  cases x with
  | none => show 0 < 15; decide
  | some q => have := (h.1 q (hx q rfl)).2.2; show ix q + 1 < 15; omega
theorem ixo_inj {A : AM} {P : Nat × Nat → Prop} {ix : Nat × Nat → Nat} (h : SpS A P ix) {x y : Option (Nat × Nat)} (hx : ∀ q, x = some q → P q) (hy : ∀ q, y = some q → P q) (e : (x.map (fun q => ix q + 1)).getD 0 = (y.map (fun q => ix q + 1)).getD 0) : x = y := by
  cases x with
  | none => cases y with
    | none => rfl
    | some r => have e' : 0 = ix r + 1 := e; omega
  | some q => cases y with
    | none => have e' : ix q + 1 = 0 := e; omega
    | some r =>
      have e' : ix q + 1 = ix r + 1 := e
      rw [h.2.1 q r (hx q rfl) (hy r rfl) (by omega)]
theorem pairs_225 {A B : AM} (hv : VA A) (hw : VA B) {PA PB : Nat × Nat → Prop} {iA iB : Nat × Nat → Nat} (hA : SpS A PA iA) (hB : SpS B PB iB) {L : List Nat} (hnd : L.Nodup) (hP : ∀ k ∈ L, PPk PA PB k) : L.length ≤ 225 := by
  have hg : ∀ i, i < L.length → ∃ k, L[i]? = some k ∧ PPk PA PB k ∧ L.getD i 0 = k := fun i hi => by
    have h := List.getElem?_eq_getElem hi
    exact ⟨_, h, hP _ (List.getElem_mem _), by simp [List.getD, h]⟩
  refine php 225 L.length (fun i => gP iA iB (L.getD i 0)) (fun i hi => ?_) (fun i j hi hj e => ?_)
  · obtain ⟨k, _, ⟨x, y, rfl, hx, hy⟩, e⟩ := hg i hi
    have hd := cd_dc hv hw (hA.ok hx) (hB.ok hy)
    show gP iA iB (L.getD i 0) < 225
    rw [e]
    unfold gP
    rw [hd.1, hd.2]
    have h1 := ixo hA hx
    have h2 := ixo hB hy
    omega
  · obtain ⟨k, hk, ⟨x, y, rfl, hx, hy⟩, e1⟩ := hg i hi
    obtain ⟨k', hk', ⟨x', y', rfl, hx', hy'⟩, e2⟩ := hg j hj
    have hd := cd_dc hv hw (hA.ok hx) (hB.ok hy)
    have hd' := cd_dc hv hw (hA.ok hx') (hB.ok hy')
    have e' : gP iA iB (L.getD i 0) = gP iA iB (L.getD j 0) := e
    rw [e1, e2] at e'
    unfold gP at e'
    rw [hd.1, hd.2, hd'.1, hd'.2] at e'
    have h1 := ixo hA hx
    have h2 := ixo hB hy
    have h3 := ixo hA hx'
    have h4 := ixo hB hy'
    have ex := ixo_inj hA hx hx' (by omega)
    have ey := ixo_inj hB hy hy' (by omega)
    rw [← ex, ← ey] at hk'
    rcases Nat.lt_trichotomy i j with hl | hl | hl
    · have := (List.pairwise_iff_getElem.mp hnd) i j hi hj hl
      rw [List.getElem?_eq_getElem hi] at hk
      rw [List.getElem?_eq_getElem hj] at hk'
      exact absurd ((Option.some.inj hk).trans (Option.some.inj hk').symm) this
    · exact hl
    · have := (List.pairwise_iff_getElem.mp hnd) j i hj hi hl
      rw [List.getElem?_eq_getElem hi] at hk
      rw [List.getElem?_eq_getElem hj] at hk'
      exact absurd ((Option.some.inj hk').trans (Option.some.inj hk).symm) this
theorem PP_nx {A B : AM} (hv : VA A) (hw : VA B) {PA PB : Nat × Nat → Prop} {iA iB : Nat × Nat → Nat} (hA : SpS A PA iA) (hB : SpS B PB iB) {k a j : Nat} (hk : PPk PA PB k) (h : nxP A B k a = some j) : PPk PA PB j := by
  obtain ⟨x, y, rfl, hx, hy⟩ := hk
  rw [nxP_cd hv hw (hA.ok hx) (hB.ok hy)] at h
  cases h
  exact ⟨_, _, rfl, hA.dlo hx a, hB.dlo hy a⟩
