/-! differ, the class -/
theorem c_great {o : Nat} {A : AM} {I : MI} {J : MJ} {Q : Int32 → MI → MJ → Prop} (ho : 12 ≤ o) (hA : RepC I o A) (hv : VA A) (hH : HaS I) (q0 : ¬ grt A → ∀ I', (∀ i, (i < 2 ∨ 12 ≤ i) → I' i = I i) → HaS I' → Q 0 I' J) (q1 : grt A → ∀ I', (∀ i, (i < 2 ∨ 12 ≤ i) → I' i = I i) → HaS I' → Q 1 I' J) : f_Chart_isGreat o I J Q := by
  unfold f_Chart_isGreat
  have hK := hv.2.2.1
  have hn14 := hv.2.2.2.2.1
  rw [hA.1]
  by_cases h3 : A.1 = 3
  · rw [if_pos (by rw [h3]; rfl), hA.2.2.1, l14]
    have hrep : ∀ I', Chk I I' → RepC I' o A := fun I' h => hA.kp (fun i a b => h.1 i (by omega) (by omega) (by omega) (by omega) (by omega) (by omega))
    refine ex_M (nx := nxM A) (an := anM A) (k0 := 0) (P := fun x => x < aN A * 4) hH hK (by decide) (by decide) (by have := hv.n1; omega) (fun x a k hx _ hk => nxM_P hv hx hk) (fun x hx => by omega) (fun I' R _ h => h) (fun I' R x a hc hx ha h => ?_) (fun I' R x hc hx h => ?_) (fun hl I' hc hh => ?_) (fun hl I' hc hC hT => ?_)
    · have e : nI x = nI (x / 4 * 4 + x % 4) := by rw [show x / 4 * 4 + x % 4 = x by omega]
      rw [e, s_next (hrep I' hc) hv (by omega) (by omega) (by omega)]
      have e2 : enP (dl A (x / 4, x % 4) a) = enO (nxM A x a) := by
        unfold nxM
        cases dl A (x / 4, x % 4) a <;> rfl
      rw [e2]
      exact h
    · have e : nI x = enP (some (x / 4, x % 4)) := by show nI x = nI (x / 4 * 4 + x % 4); rw [show x / 4 * 4 + x % 4 = x by omega]
      rw [e, s_ansAt (hrep I' hc) hv (fun q hq => by cases hq; exact ⟨by show x / 4 < _; omega, by show x % 4 < _; omega⟩)]
      exact h
    · rw [if_pos rfl]
      exact q1 hl I' (fun i hi => hc.1 i (by omega) (by omega) (by omega) (by omega) (by omega) (by omega)) hh
    · rw [if_neg (by decide)]
      have hg : ¬ grt A := fun h => by have : 14 < (ndM A).length := h; have : (ndM A).length ≤ 14 := hl; omega
      exact q0 hg I' (fun i hi => hc.1 i (by omega) (by omega) (by omega) (by omega) (by omega) (by omega)) hC.has
  · rw [if_neg (show ¬ nI A.1 = 3 by rw [l3, eqNN (by have := hv.1; omega) (by decide)]; exact h3)]
    refine q0 ?_ I (fun _ _ => rfl) hH
    have hS : ∀ x ∈ ndM A, okS A (x / 4, x % 4) := bfB_inv (P := fun x => okS A (x / 4, x % 4)) (okS_0 hv) (fun x a k hx _ hk => by
      unfold nxM at hk
      cases hd : dl A (x / 4, x % 4) a with
      | none => rw [hd] at hk; cases hk
      | some t =>
        rw [hd] at hk
        have hk' : t.1 * 4 + t.2 = k := by simpa using hk
        have ht := okS_dl hv hx hd
        rw [← hk', (dm4 ht.2.1).1, (dm4 ht.2.1).2]
        exact ht) 14
    have hnd : (ndM A).Nodup := bfB_nd _ _ _ _
    have hle : (ndM A).length ≤ 14 := by
      refine php 14 (ndM A).length (fun i => (ndM A).getD i 0 / 4) (fun i hi => ?_) (fun i j hi hj e => ?_)
      · have h := List.getElem?_eq_getElem hi
        have h2 := (hS _ (List.getElem_mem hi)).1
        have e : (ndM A).getD i 0 = (ndM A)[i] := by simp [List.getD, h]
        show (ndM A).getD i 0 / 4 < 14
        rw [e]
        have h2' : (ndM A)[i] / 4 < aN A := h2
        omega
      · have e1 : (ndM A).getD i 0 = (ndM A)[i] := by simp [List.getD, List.getElem?_eq_getElem hi]
        have e2 : (ndM A).getD j 0 = (ndM A)[j] := by simp [List.getD, List.getElem?_eq_getElem hj]
        have e' : (ndM A).getD i 0 / 4 = (ndM A).getD j 0 / 4 := e
        rw [e1, e2] at e'
        have s1 : (ndM A)[i] % 4 = 0 := (hS _ (List.getElem_mem hi)).2.2 h3
        have s2 : (ndM A)[j] % 4 = 0 := (hS _ (List.getElem_mem hj)).2.2 h3
        have eq : (ndM A)[i] = (ndM A)[j] := by omega
        rcases Nat.lt_trichotomy i j with hl | hl | hl
        · exact absurd eq ((List.pairwise_iff_getElem.mp hnd) i j hi hj hl)
        · exact hl
        · exact absurd eq.symm ((List.pairwise_iff_getElem.mp hnd) j i hj hi hl)
    unfold grt
    omega
noncomputable section
def opDiffer (x y : Int32) (σ : SG) : Int64 := match maC σ x with
  | none => -1
  | some A => match maC σ y with
    | none => -1
    | some B => by classical exact if grt A then -1 else if grt B then -1 else fuN A B (some (0, 0)) (some (0, 0))
end
theorem nd_0 (A : AM) : 0 ∈ ndM A := List.mem_of_getElem? (bfB_k0 _ _ _ _)
theorem S_differ {x y : Int32} {I : MI} {J : MJ} {σ : SG} {Q : Int64 → MI → MJ → Prop} (h : AbsS I J σ) (q : KSg I J (opDiffer x y σ, σ) Q) : f_School_differ x y I J Q := by
  unfold f_School_differ
  rw [s_machAt h, s_machAt h]
  unfold opDiffer at q
  have q0 : ∀ v : Int64, KSg I J (v, σ) Q → Q v I J := fun v k => k I J FrS.rf h
  rcases maC_cases σ x with ⟨p, A, hp, rfl, ht, e, e0⟩ | ⟨e, e0⟩
  · rw [e] at q
    rw [if_pos e0, nI_clamp (by omega)]
    simp only at q ⊢
    refine ⟨okM_p hp, ?_⟩
    have hP := (h.1 p hp).1
    rw [ht] at hP
    obtain ⟨g1, g2, g3⟩ := hP
    rcases maC_cases σ y with ⟨r, B, hr, rfl, hs, f, f0⟩ | ⟨f, f0⟩
    · rw [f] at q
      rw [if_pos f0, nI_clamp (by omega)]
      simp only at q ⊢
      refine ⟨okM_p hr, ?_⟩
      have hP := (h.1 r hr).1
      rw [hs] at hP
      obtain ⟨k1, k2, k3⟩ := hP
      refine c_great (by omega) g2 g3 h.2.2.2.2 (fun hg I1 e1 H1 => ?_) (fun hg I1 e1 H1 => ?_)
      · rw [if_pos rfl]
        rw [if_neg hg] at q
        have k2' : RepC I1 (1 + 64 + 7 * r + 1) B := k2.kp (fun i a b => e1 i (by omega))
        refine c_great (by omega) k2' k3 H1 (fun hg2 I2 e2 H2 => ?_) (fun hg2 I2 e2 H2 => ?_)
        · rw [if_pos rfl]
          rw [if_neg hg2] at q
          have g2' : RepC I2 (1 + 64 + 7 * p + 1) A := g2.kp (fun i a b => by rw [e2 i (by omega), e1 i (by omega)])
          have k2'' : RepC I2 (1 + 64 + 7 * r + 1) B := k2'.kp (fun i a b => e2 i (by omega))
          refine c_unlike (x := some (0, 0)) (y := some (0, 0)) (by omega) (by omega) g2' k2'' g3 k3 (SpS.nodes g3 hg) (SpS.nodes k3 hg2) (fun q hq => by cases hq; exact ⟨by decide, nd_0 A⟩) (fun q hq => by cases hq; exact ⟨by decide, nd_0 B⟩) H2 (fun I3 J3 e3 j3 H3 => ?_)
          have e13 : ∀ i, (i < 2 ∨ 12 ≤ i) → I3 i = I i := fun i hi => by rw [e3 i hi, e2 i hi, e1 i hi]
          exact q I3 J3 ⟨fun i hi => e13 i (by omega), fun i hi => j3 i (by omega)⟩ (h.scr (fun i hi => e13 i (by omega)) (fun i hi => j3 i (by omega)) H3)
        · rw [if_neg (by decide)]
          rw [if_pos hg2] at q
          have e12 : ∀ i, (i < 2 ∨ 12 ≤ i) → I2 i = I i := fun i hi => by rw [e2 i hi, e1 i hi]
          exact q I2 J ⟨fun i hi => e12 i (by omega), fun _ _ => rfl⟩ (h.scr (fun i hi => e12 i (by omega)) (fun _ _ => rfl) H2)
      · rw [if_neg (by decide)]
        rw [if_pos hg] at q
        exact q I1 J ⟨fun i hi => e1 i (by omega), fun _ _ => rfl⟩ (h.scr (fun i hi => e1 i (by omega)) (fun _ _ => rfl) H1)
    · rw [f] at q
      rw [if_neg f0]
      exact q0 _ q
  · rw [e] at q
    rw [if_neg e0]
    exact q0 _ q
