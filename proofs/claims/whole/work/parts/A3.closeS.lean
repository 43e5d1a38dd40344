/-! closing, the class -/
def PaS (I : MI) (J : MJ) (S : AM) (ah bh : List (List Nat)) : Prop := RepC I 38 S ∧ I 37 2 = nI ah.length ∧ I 37 3 = nI bh.length ∧ (∀ (i : Nat) (w : List Nat), ah[i]? = some w → J 48 i = lN (num w) ∧ I 50 i = nI (endS S w)) ∧ ∀ (j : Nat) (v : List Nat), bh[j]? = some v → J 49 j = lN (num v) ∧ ∀ s, s < aN S → I 51 (s * 14 + j) = nI (ansF S (s, 0) v)
theorem PaS.kp {I I' : MI} {J J' : MJ} {S : AM} {ah bh : List (List Nat)} (h : PaS I J S ah bh) (e : ∀ i, (38 ≤ i ∧ i ≤ 42) ∨ i = 50 ∨ i = 51 → I' i = I i) (e2 : I' 37 2 = I 37 2 ∧ I' 37 3 = I 37 3) (ej : J' 48 = J 48 ∧ J' 49 = J 49) : PaS I' J' S ah bh := by
  obtain ⟨h1, h2, h3, h4, h5⟩ := h
  refine ⟨h1.kp (fun i a b => e i (by omega)), by rw [e2.1]; exact h2, by rw [e2.2]; exact h3, ?_, ?_⟩
  · rw [ej.1, e 50 (by omega)]; exact h4
  · rw [ej.2, e 51 (by omega)]; exact h5
theorem s_heard {S : AM} {s : Nat} {v : List Nat} {I : MI} {J : MJ} {Q : Int32 → MI → MJ → Prop} (hA : RepC I 38 S) (hv : VA S) (hs : s < aN S) (hw : wOk v) (q : Q (nI (ansF S (s, 0) v)) I J) : f_Pupil_heardFrom (nI s) (lN (num v)) I J Q := by
  unfold f_Pupil_heardFrom
  have hok : okSp S (some (s, 0)) := fun z hz => by cases hz; exact ⟨hs, (show 0 < 4 by decide)⟩
  rw [l4, pk_mul]
  refine s_runO (x := some (s, 0)) hA hv hok hw ?_
  rw [s_ansAt hA hv (okSp_run hv hok v)]
  rw [ansF_o] at q
  exact q
theorem s_same {S : AM} {ah bh : List (List Nat)} {s t : Nat} {I : MI} {J : MJ} {Q : Int32 → MI → MJ → Prop} (hP : PaS I J S ah bh) (hv : VA S) (hb : bh.length ≤ 14) (hs : s < aN S) (ht : t < aN S) (q1 : (∀ v ∈ bh, ansF S (s, 0) v = ansF S (t, 0) v) → Q 1 I J) (q0 : ¬ (∀ v ∈ bh, ansF S (s, 0) v = ansF S (t, 0) v) → Q 0 I J) : f_Pupil_haveSameRow (nI s) (nI t) I J Q := by
  unfold f_Pupil_haveSameRow
  have h14 := hv.2.2.2.2.1
  refine lp1 (fun n (j : Nat) => f_Pupil_haveSameRow_L2 (nI s) (nI t) _ _ n (nI j) I J) (fun j => j ≤ bh.length ∧ ∀ (l : Nat) (v : List Nat), l < j → bh[l]? = some v → ansF S (s, 0) v = ansF S (t, 0) v) (fun j => bh.length - j) ?_ 0 ⟨Nat.zero_le _, fun l v hl => absurd hl (Nat.not_lt_zero _)⟩
  rintro n j ⟨b1, b2⟩ ih
  unfold f_Pupil_haveSameRow_L2
  rw [hP.2.2.1]
  by_cases ej : j = bh.length
  · rw [if_pos (by rw [ej, leNN (by omega) (by omega)]; exact Nat.le_refl _)]
    refine q1 (fun v hv' => ?_)
    obtain ⟨l, hl⟩ := List.mem_iff_getElem?.mp hv'
    exact b2 l v (by have := (List.getElem?_eq_some_iff.mp hl).1; omega) hl
  · have hg := List.getElem?_eq_getElem (show j < bh.length by omega)
    generalize bh[j] = v at hg
    have k1 := ansF_8 hv (sc := (s, 0)) hs (show 0 < 4 by decide) v
    have k2 := ansF_8 hv (sc := (t, 0)) ht (show 0 < 4 by decide) v
    rw [if_neg (by rw [leNN (by omega) (by omega)]; omega), l14, pk_mul, pk_mul, nI_add, nI_add, vpN (by omega), vpN (by omega), nI_clamp (by omega), nI_clamp (by omega), (hP.2.2.2.2 j v hg).2 s hs, (hP.2.2.2.2 j v hg).2 t ht]
    refine ⟨by omega, by omega, ?_⟩
    by_cases e : ansF S (s, 0) v = ansF S (t, 0) v
    · rw [if_pos (by rw [e]), nI_1, forall_eq]
      refine ih (j + 1) ⟨by omega, fun l u hl hu => ?_⟩ (by omega)
      by_cases hlj : l = j
      · subst hlj; rw [hg] at hu; cases hu; exact e
      · exact b2 l u (by omega) hu
    · rw [if_neg (by rw [eqNN (by omega) (by omega)]; exact e)]
      exact q0 (fun hh => e (hh v (List.mem_of_getElem? hg)))
theorem s_likeA {S : AM} {ah bh : List (List Nat)} {t : Nat} {u : List Nat} {I : MI} {J : MJ} {Q : Int32 → MI → MJ → Prop} (hP : PaS I J S ah bh) (hq : VQ S ah bh) (hb : bh.length ≤ 14) (hu : run S (0, 0) u = some (t, 0)) (ht : t < aN S) (q : Q (enO (likeA S ah bh u)) I J) : f_Pupil_aheadLike (nI t) I J Q := by
  unfold f_Pupil_aheadLike
  have hlen := hq.len
  obtain ⟨h1, h2, h3, h4, h5, h6, h7⟩ := id hq
  have h14 := h1.1.2.2.2.2.1
  refine lp1 (fun n (i : Nat) => f_Pupil_aheadLike_L2 (nI t) _ _ n (nI i) I J) (fun i => i ≤ ah.length ∧ ∀ (j : Nat) (y : List Nat), j < i → ah[j]? = some y → rowOf S bh y ≠ rowOf S bh u) (fun i => ah.length - i) ?_ 0 ⟨Nat.zero_le _, fun l v hl => absurd hl (Nat.not_lt_zero _)⟩
  rintro n i ⟨b1, b2⟩ ih
  unfold f_Pupil_aheadLike_L2
  rw [hP.2.1]
  by_cases ei : i = ah.length
  · rw [if_pos (by rw [ei, leNN (by omega) (by omega)]; exact Nat.le_refl _)]
    rw [likeA_n.mpr (fun w hw => by
      obtain ⟨l, hl⟩ := List.mem_iff_getElem?.mp hw
      exact b2 l w (by have := (List.getElem?_eq_some_iff.mp hl).1; omega) hl)] at q
    exact q
  · have hg := List.getElem?_eq_getElem (show i < ah.length by omega)
    generalize ah[i] = w at hg
    have hwr := (h4 w (List.mem_of_getElem? hg)).2
    have he := end_run h1 hwr
    rw [if_neg (by rw [leNN (by omega) (by omega)]; omega), vpN (by omega), nI_clamp (by omega), (hP.2.2.2.1 i w hg).2]
    refine ⟨by omega, s_same hP h1.1 hb he.2 ht (fun hs => ?_) (fun hs => ?_)⟩
    · rw [if_neg (by decide)]
      rw [likeA_of hg (rowOf_eq.mpr (fun v hv => by rw [ans_app he.1, ans_app hu]; exact hs v hv)) b2] at q
      exact q
    · rw [if_pos rfl, nI_1, forall_eq]
      refine ih (i + 1) ⟨by omega, fun j y hj hy => ?_⟩ (by omega)
      by_cases hji : j = i
      · subst hji
        rw [hg] at hy
        cases hy
        intro e
        refine hs (fun v hv => ?_)
        have := rowOf_eq.mp e v hv
        rw [ans_app he.1, ans_app hu] at this
        exact this
      · exact b2 j y (by omega) hy
def CsF (I I' : MI) (J J' : MJ) : Prop := (∀ i, i ≠ 37 → i ≠ 50 → I' i = I i) ∧ (∀ k, k ≠ 2 → I' 37 k = I 37 k) ∧ ∀ i, i ≠ 48 → J' i = J i
theorem CsF.rf {I : MI} {J : MJ} : CsF I I J J := ⟨fun _ _ _ => rfl, fun _ _ => rfl, fun _ _ => rfl⟩
theorem CsF.tr {I I' I'' : MI} {J J' J'' : MJ} (h : CsF I I' J J') (h' : CsF I' I'' J' J'') : CsF I I'' J J'' := ⟨fun i a b => (h'.1 i a b).trans (h.1 i a b), fun k a => (h'.2.1 k a).trans (h.2.1 k a), fun i a => (h'.2.2 i a).trans (h.2.2 i a)⟩
theorem s_close {S : AM} {ah0 bh : List (List Nat)} {I : MI} {J : MJ} {Q : MI → MJ → Prop} (hP : PaS I J S ah0 bh) (hq : VQ S ah0 bh) (hb : bh.length ≤ 14) (q : ∀ ah I' J', ClE S bh ah0 ah → VQ S ah bh → (∀ i a, ¬ badA S ah bh i a) → PaS I' J' S ah bh → CsF I I' J J' → Q I' J') : f_Pupil_closeAhead I J Q := by
  have hS := hq.1
  have h14 := hS.1.2.2.2.2.1
  have hk4 := hS.1.2.2.1
  unfold f_Pupil_closeAhead
  refine lp3 (fun n (i : Nat) (I1 : MI) (J1 : MJ) => f_Pupil_closeAhead_L2 _ n (nI i) I1 J1) (fun i I1 J1 => ∃ ah : List (List Nat), i ≤ ah.length ∧ VQ S ah bh ∧ PaS I1 J1 S ah bh ∧ CsF I I1 J J1 ∧ (∀ x, ClE S bh ah x → ClE S bh ah0 x) ∧ ∀ i' a', i' < i → ¬ badA S ah bh i' a') (fun i _ _ => 15 - i) ?_ 0 I J ⟨ah0, Nat.zero_le _, hq, hP, CsF.rf, fun _ h => h, fun i' a' hi => absurd hi (Nat.not_lt_zero _)⟩
  rintro n i I1 J1 ⟨ah, b1, b2, b3, b4, b5, b6⟩ ih
  have hlen := b2.len
  unfold f_Pupil_closeAhead_L2
  rw [b3.2.1]
  by_cases ei : i = ah.length
  · rw [if_pos (by rw [ei, leNN (by omega) (by omega)]; exact Nat.le_refl _)]
    have hno : ∀ i a, ¬ badA S ah bh i a := fun j a hbd => by
      obtain ⟨w, k1, _⟩ := id hbd
      exact b6 j a (by have := (List.getElem?_eq_some_iff.mp k1).1; omega) hbd
    exact q ah I1 J1 (b5 ah (ClE.stop hno)) b2 hno b3 b4
  · rw [if_neg (by rw [leNN (by omega) (by omega)]; omega), if_neg (by rw [l14, leNN (by decide) (by omega)]; omega)]
    refine lp3 (fun n2 (a : Nat) (I2 : MI) (J2 : MJ) => f_Pupil_closeAhead_L18 (nI i) _ n2 (nI a) I2 J2) (fun a I2 J2 => ∃ ah : List (List Nat), i < ah.length ∧ a ≤ S.2.1 ∧ VQ S ah bh ∧ PaS I2 J2 S ah bh ∧ CsF I I2 J J2 ∧ (∀ x, ClE S bh ah x → ClE S bh ah0 x) ∧ ∀ i' a', (i' < i ∨ (i' = i ∧ a' < a)) → ¬ badA S ah bh i' a') (fun a _ _ => 5 - a) ?_ 0 I1 J1 ⟨ah, by omega, Nat.zero_le _, b2, b3, b4, b5, fun i' a' hi => b6 i' a' (by omega)⟩
    rintro n2 a I2 J2 ⟨ah, c0, c1, c2, c3, c4, c5, c6⟩ ih2
    have hlen := c2.len
    unfold f_Pupil_closeAhead_L18
    rw [c3.1.2.2.1]
    by_cases ea : a = S.2.1
    · rw [if_pos (by rw [ea, leNN (by omega) (by omega)]; exact Nat.le_refl _), nI_1, forall_eq]
      refine ih (i + 1) I2 J2 ⟨ah, by omega, c2, c3, c4, c5, fun i' a' hi hbd => ?_⟩ (by omega)
      obtain ⟨w, _, k2, _⟩ := id hbd
      exact c6 i' a' (by omega) hbd
    · have hw := List.getElem?_eq_getElem c0
      generalize ah[i] = w at hw
      have hwo := c2.2.2.2.1 w (List.mem_of_getElem? hw)
      have he := end_run hS hwo.2
      have hsn := run_snoc hS hwo.2 a
      rw [if_neg (by rw [leNN (by omega) (by omega)]; omega), vpN (by omega), nI_clamp (by omega), (c3.2.2.2.1 i w hw).2, s_lead c3.1 hS.1 (by omega) (by omega)]
      refine ⟨by omega, ?_⟩
      have go : ¬ badA S ah bh i a → f_Pupil_closeAhead_b109 (nI a) (f_Pupil_closeAhead_L18 (nI i) (fun (I : MI) (J : MJ) => ∀ t115 : Int32, t115 = nI i + 1 → f_Pupil_closeAhead_L2 (fun (I : MI) (J : MJ) => Q I J) n t115 I J) n2) I2 J2 := fun hnb => by
        unfold f_Pupil_closeAhead_b109
        intro t et
        rw [et, nI_1 a]
        refine ih2 (a + 1) I2 J2 ⟨ah, c0, by omega, c2, c3, c4, c5, fun i' a' hi hbd => ?_⟩ (by omega)
        by_cases hh : i' = i ∧ a' = a
        · rw [hh.1, hh.2] at hbd; exact hnb hbd
        · exact c6 i' a' (by omega) hbd
      cases hl : ld S (endS S w) a with
      | none =>
        rw [hl] at hsn
        rw [if_pos (show enO none = -1 from rfl)]
        refine go (fun hbd => ?_)
        obtain ⟨w', k1, k2, k3, k4⟩ := hbd
        rw [hw] at k1
        cases k1
        rw [hsn] at k3
        cases k3
      | some t =>
        have ht := (ld_lt hS.1 hl).1
        rw [hl] at hsn
        have hsn' : run S (0, 0) (w ++ [a]) = some (t, 0) := hsn
        rw [if_neg (enO_nn (by omega)), show enO (some t) = nI t from rfl]
        refine s_likeA c3 c2 hb hsn' ht ?_
        cases hla : likeA S ah bh (w ++ [a]) with
        | some j =>
          obtain ⟨y, y1, _⟩ := likeA_s hla
          have := (List.getElem?_eq_some_iff.mp y1).1
          rw [if_neg (enO_nn (by omega))]
          refine go (fun hbd => ?_)
          obtain ⟨w', k1, k2, k3, k4⟩ := hbd
          rw [hw] at k1
          cases k1
          rw [hla] at k4
          cases k4
        | none =>
          have hbd : badA S ah bh i a := ⟨w, hw, by omega, by rw [hsn']; rfl, hla⟩
          have hadd := c2.add hbd hw
          have hlen' := hadd.len
          simp only [List.length_append, List.length_cons, List.length_nil] at hlen'
          rw [if_pos (show enO none = -1 from rfl), c3.2.1, if_neg (by rw [l14, leNN (by decide) (by omega)]; omega), vpN (by omega), nI_clamp (by omega), (c3.2.2.2.1 i w hw).1, nI_l (by omega), show (4 : Int64) = lN 4 from rfl, lN_mul, lN_add, ← num_app]
          refine ⟨by omega, by omega, fun J3 j3 => ⟨by omega, fun I3 e3 I4 e4 => ?_⟩⟩
          rw [show I3 37 2 = nI ah.length by rw [e3, sI_n _ _ (by decide)]; exact c3.2.1, nI_1] at e4
          have f4 : ∀ c, c ≠ 37 → c ≠ 50 → I4 c = I2 c := fun c a b => by rw [e4, sI_n _ _ a, e3, sI_n _ _ b]
          have f37 : ∀ k, k ≠ 2 → I4 37 k = I2 37 k := fun k hk => by rw [e4, sI_s, pk_un hk, e3, sI_n _ _ (by decide)]
          have m50 : ∀ j, I4 50 j = if j = ah.length then nI t else I2 50 j := fun j => by rw [e4, sI_n _ _ (by decide), e3, sI_s, upd_at]
          have m48 : ∀ j, J3 48 j = if j = ah.length then lN (num (w ++ [a])) else J2 48 j := fun j => by rw [j3, sJ_at, if_pos rfl, updL_at]
          have eend : endS S (w ++ [a]) = t := by unfold endS; rw [hsn']
          have c3' : PaS I4 J3 S (ah ++ [w ++ [a]]) bh := by
            obtain ⟨p1, p2, p3, p4, p5⟩ := c3
            refine ⟨p1.kp (fun c u v => f4 c (by omega) (by omega)), by rw [e4, sI_s, pk_us, List.length_append]; rfl, by rw [f37 3 (by decide)]; exact p3, fun j y hy => ?_, ?_⟩
            · rw [m48, m50]
              rcases app_get hy with ⟨u1, u2⟩ | ⟨u1, u2⟩
              · rw [if_neg (by omega), if_neg (by omega)]; exact p4 j y u2
              · rw [if_pos u1, if_pos u1, u2, eend]; exact ⟨rfl, rfl⟩
            · rw [f4 51 (by decide) (by decide), show J3 49 = J2 49 by rw [j3, sJ_at, if_neg (by decide)]]
              exact p5
          unfold f_Pupil_closeAhead_b109
          intro u eu
          rw [eu, nI_1 a]
          refine ih2 (a + 1) I4 J3 ⟨ah ++ [w ++ [a]], by simp; omega, by omega, hadd, c3', c4.tr ⟨f4, f37, fun j hj => by rw [j3, sJ_at, if_neg hj]⟩, fun x hx => c5 x (ClE.step ⟨hbd, c6⟩ hw hx), fun i' a' hi hbd' => ?_⟩ (by omega)
          by_cases hh : i' = i ∧ a' = a
          · obtain ⟨w', k1, k2, k3, k4⟩ := hbd'
            rw [hh.1, List.getElem?_append_left c0, hw] at k1
            cases k1
            rw [hh.2] at k4
            exact likeA_n.mp k4 (w ++ [a]) (by simp) rfl
          · exact c6 i' a' (by omega) (badA_mono (by omega) hbd')
/-- a word comes behind -/
theorem s_addB {S : AM} {ah bh : List (List Nat)} {v : List Nat} {I : MI} {J : MJ} {Q : MI → MJ → Prop} (hP : PaS I J S ah bh) (hv : VA S) (hb : bh.length < 14) (hw : wOk v) (q : ∀ I' J', (∀ i, i ≠ 37 → i ≠ 51 → I' i = I i) → (∀ k, k ≠ 3 → I' 37 k = I 37 k) → (∀ i, i ≠ 49 → J' i = J i) → PaS I' J' S ah (bh ++ [v]) → Q I' J') : f_Pupil_addBehind (lN (num v)) I J Q := by
  unfold f_Pupil_addBehind
  obtain ⟨p1, p2, p3, p4, p5⟩ := hP
  have h14 := hv.2.2.2.2.1
  rw [p3, if_pos (by rw [l14, ltNN (by omega) (by decide)]; exact hb), vpN (by omega), nI_clamp (by omega)]
  refine ⟨hb, fun J1 j1 => ?_⟩
  refine lp2 (fun n (s : Nat) (I1 : MI) => f_Pupil_addBehind_L22 (lN (num v)) _ n (nI s) I1 J1) (fun s I1 => s ≤ aN S ∧ (∀ i, i ≠ 51 → I1 i = I i) ∧ (∀ k, k % 14 ≠ bh.length → I1 51 k = I 51 k) ∧ ∀ s', s' < s → I1 51 (s' * 14 + bh.length) = nI (ansF S (s', 0) v)) (fun s _ => aN S - s) ?_ 0 I ⟨Nat.zero_le _, fun _ _ => rfl, fun _ _ => rfl, fun s' hs => absurd hs (Nat.not_lt_zero _)⟩
  rintro n s I1 ⟨b1, b2, b3, b4⟩ ih
  unfold f_Pupil_addBehind_L22
  have hr1 : RepC I1 38 S := p1.kp (fun i a b => b2 i (by omega))
  rw [hr1.2.1]
  by_cases es : s = aN S
  · rw [if_pos (by rw [es, leNN (by omega) (by omega)]; exact Nat.le_refl _)]
    intro I2 e2
    rw [b2 37 (by decide), p3, nI_1] at e2
    have m37 : ∀ k, k ≠ 3 → I2 37 k = I 37 k := fun k hk => by rw [e2, sI_s, pk_un hk]
    have f2 : ∀ i, i ≠ 37 → I2 i = I1 i := fun i hi => by rw [e2, sI_n _ _ hi]
    refine q I2 J1 (fun i a b => by rw [f2 i a, b2 i b]) m37 (fun i hi => by rw [j1, sJ_at, if_neg hi]) ⟨p1.kp (fun i a b => by rw [f2 i (by omega), b2 i (by omega)]), by rw [m37 2 (by decide)]; exact p2, by rw [e2, sI_s, pk_us, List.length_append]; rfl, fun i w hw => ?_, fun j u hu => ?_⟩
    · rw [show J1 48 = J 48 by rw [j1, sJ_at, if_neg (by decide)], f2 50 (by decide), b2 50 (by decide)]
      exact p4 i w hw
    · have m49 : J1 49 j = if j = bh.length then lN (num v) else J 49 j := by rw [j1, sJ_at, if_pos rfl, updL_at]
      rw [m49]
      rcases app_get hu with ⟨u1, u2⟩ | ⟨u1, u2⟩
      · rw [if_neg (by omega)]
        refine ⟨(p5 j u u2).1, fun s' hs' => ?_⟩
        rw [f2 51 (by decide), b3 _ (by omega)]
        exact (p5 j u u2).2 s' hs'
      · rw [if_pos u1, u1, u2]
        refine ⟨rfl, fun s' hs' => ?_⟩
        rw [f2 51 (by decide)]
        exact b4 s' (by omega)
  · rw [if_neg (by rw [leNN (by omega) (by omega)]; omega)]
    refine s_heard hr1 hv (by omega) hw ?_
    rw [b2 37 (by decide), p3, l14, pk_mul, nI_add, vpN (by omega), nI_clamp (by omega)]
    refine ⟨by omega, fun I2 e2 t et => ?_⟩
    rw [et, nI_1 s]
    refine ih (s + 1) I2 ⟨by omega, fun i hi => by rw [e2, sI_n _ _ hi, b2 i hi], fun k hk => ?_, fun s' hs' => ?_⟩ (by omega)
    · rw [e2, sI_s, upd_at, if_neg (by omega)]; exact b3 k hk
    · rw [e2, sI_s, upd_at]
      by_cases hss : s' = s
      · rw [if_pos (by omega), hss]
      · rw [if_neg (by omega)]; exact b4 s' (by omega)
