/-! closing, the reference -/
def PaM (I : MI) (J : MJ) (S : AM) (ah bh : List (List Nat)) : Prop := RepM I 16 S ∧ I 177 53 = nI ah.length ∧ I 177 54 = nI bh.length ∧ (∀ (i : Nat) (w : List Nat), ah[i]? = some w → J 215 i = lN (num w)) ∧ ∀ (j : Nat) (v : List Nat), bh[j]? = some v → J 216 j = lN (num v)
theorem PaM.sc {I I' : MI} {J : MJ} {S : AM} {ah bh : List (List Nat)} (h : PaM I J S ah bh) (e : Sc I I') : PaM I' J S ah bh := ⟨e.rep h.1, by rw [e.2 53 (by decide) (by decide)]; exact h.2.1, by rw [e.2 54 (by decide) (by decide)]; exact h.2.2.1, h.2.2.2.1, h.2.2.2.2⟩
def axO (x : Int32) (ax : List Nat) : Prop := (x < 0 ∧ ax = []) ∨ ∃ a, a < 4 ∧ x = nI a ∧ ax = [a]
theorem m_hasRow {S : AM} {ah bh : List (List Nat)} {u ax y : List Nat} {x : Int32} {j : Nat} {I : MI} {J : MJ} {Q : Int32 → MI → MJ → Prop} (hP : PaM I J S ah bh) (hq : VQ S ah bh) (hb : bh.length ≤ 14) (hu : wOk u) (hx : axO x ax) (hj : ah[j]? = some y) (q1 : rowOf S bh y = rowOf S bh (u ++ ax) → ∀ I', Sc I I' → Q 1 I' J) (q0 : rowOf S bh y ≠ rowOf S bh (u ++ ax) → ∀ I', Sc I I' → Q 0 I' J) : f_Model_hasRowOf (lN (num u)) x (nI j) I J Q := by
  unfold f_Model_hasRowOf
  have hlen := hq.len
  obtain ⟨hS, h2, h3, h4, h5, h6, h7⟩ := id hq
  have h14 := hS.1.2.2.2.2.1
  have hjl := (List.getElem?_eq_some_iff.mp hj).1
  have hyo := (h4 y (List.mem_of_getElem? hj)).1
  refine lp3 (fun n (b : Bool) (l : Nat) (I1 : MI) => f_Model_hasRowOf_L6 (lN (num u)) x (nI j) _ n (if b = true then 1 else 0) (nI l) I1 J) (fun b l I1 => l ≤ bh.length ∧ Sc I I1 ∧ (b = true → ∀ (m : Nat) (v : List Nat), m < l → bh[m]? = some v → ansF S (0, 0) (y ++ v) = ansF S (0, 0) (u ++ ax ++ v)) ∧ (b = false → rowOf S bh y ≠ rowOf S bh (u ++ ax))) (fun _ l _ => bh.length - l) ?_ true 0 I ⟨Nat.zero_le _, Sc.rf, (fun _ m v hm => absurd hm (Nat.not_lt_zero _)), (fun hh => by cases hh)⟩
  rintro n b l I1 ⟨b1, b2, b3, b4⟩ ih
  have hP1 := hP.sc b2
  unfold f_Model_hasRowOf_L6
  rw [hP1.2.2.1]
  by_cases el : l = bh.length
  · rw [if_pos (by rw [el, leNN (by omega) (by omega)]; exact Nat.le_refl _)]
    cases b with
    | true =>
      refine ⟨Or.inr rfl, q1 (rowOf_eq.mpr (fun v hv => ?_)) I1 b2⟩
      obtain ⟨m, hm⟩ := List.mem_iff_getElem?.mp hv
      exact b3 rfl m v (by have := (List.getElem?_eq_some_iff.mp hm).1; omega) hm
    | false => exact ⟨Or.inl rfl, q0 (b4 rfl) I1 b2⟩
  · rw [if_neg (by rw [leNN (by omega) (by omega)]; omega)]
    cases b with
    | false =>
      rw [if_pos (show (if false = true then (1 : Int32) else 0) = 0 from rfl)]
      exact ⟨Or.inl rfl, q0 (b4 rfl) I1 b2⟩
    | true =>
      have hg := List.getElem?_eq_getElem (show l < bh.length by omega)
      generalize bh[l] = v at hg
      have hvo := h5 v (List.mem_of_getElem? hg)
      rw [if_neg (by decide), vpN (by omega), nI_clamp (by omega), hP1.2.2.2.2 l v hg]
      refine ⟨by omega, m_taught (fr := 0) hP1.1 hS.1 hu hvo (Nat.zero_le _) hx (fun I2 e2 => ?_)⟩
      have hP2 := hP1.sc e2
      rw [vpN (by omega), nI_clamp (by omega), hP2.2.2.2.1 j y hj, hP2.2.2.2.2 l v hg]
      refine ⟨by omega, by omega, m_taught (fr := 0) (ax := []) (x := -1) hP2.1 hS.1 hyo hvo (Nat.zero_le _) (Or.inl ⟨by decide, rfl⟩) (fun I3 e3 => ?_)⟩
      have hsc := (b2.tr e2).tr e3
      have k1 := ansF_8' hS.1 (u ++ ax ++ v.drop 0)
      have k2 := ansF_8' hS.1 (y ++ [] ++ v.drop 0)
      unfold f_Model_hasRowOf_b62
      rw [nI_1]
      by_cases e : ansF S (0, 0) (y ++ v) = ansF S (0, 0) (u ++ ax ++ v)
      · rw [if_pos (by rw [List.append_nil, List.drop_zero, e])]
        intro t et
        rw [et]
        refine ih true (l + 1) I3 ⟨by omega, hsc, (fun _ m v' hm hv' => ?_), (fun hh => by cases hh)⟩ (by omega)
        by_cases hml : m = l
        · subst hml; rw [hg] at hv'; cases hv'; exact e
        · exact b3 rfl m v' (by omega) hv'
      · rw [if_neg (by rw [eqNN (by omega) (by omega), List.append_nil, List.drop_zero]; exact fun hh => e hh.symm)]
        intro t et
        rw [et]
        refine ih false (l + 1) I3 ⟨by omega, hsc, (fun hh => by cases hh), fun _ hh => e (rowOf_eq.mp hh v (List.mem_of_getElem? hg))⟩ (by omega)
theorem m_likeA {S : AM} {ah bh : List (List Nat)} {u ax : List Nat} {x : Int32} {I : MI} {J : MJ} {Q : Int32 → MI → MJ → Prop} (hP : PaM I J S ah bh) (hq : VQ S ah bh) (hb : bh.length ≤ 14) (hu : wOk u) (hx : axO x ax) (q : ∀ I', Sc I I' → Q (enO (likeA S ah bh (u ++ ax))) I' J) : f_Model_likeAhead (lN (num u)) x I J Q := by
  unfold f_Model_likeAhead
  have hlen := hq.len
  have h14 := hq.1.1.2.2.2.2.1
  refine lp3 (fun n (fd : Option Nat) (j : Nat) (I1 : MI) => f_Model_likeAhead_L6 (lN (num u)) x _ n (enO fd) (nI j) I1 J) (fun fd j I1 => j ≤ ah.length ∧ Sc I I1 ∧ (fd = none → ∀ (l : Nat) (y : List Nat), l < j → ah[l]? = some y → rowOf S bh y ≠ rowOf S bh (u ++ ax)) ∧ ∀ t, fd = some t → likeA S ah bh (u ++ ax) = some t) (fun _ j _ => ah.length - j) ?_ none 0 I ⟨Nat.zero_le _, Sc.rf, (fun _ l y hl => absurd hl (Nat.not_lt_zero _)), (fun t ht => by cases ht)⟩
  rintro n fd j I1 ⟨b1, b2, b3, b4⟩ ih
  have hP1 := hP.sc b2
  unfold f_Model_likeAhead_L6
  rw [hP1.2.1]
  have fin : ∀ t, fd = some t → Q (enO fd) I1 J := fun t ht => by
    have := q I1 b2
    rw [b4 t ht, ← ht] at this
    exact this
  by_cases ej : j = ah.length
  · rw [if_pos (by rw [ej, leNN (by omega) (by omega)]; exact Nat.le_refl _)]
    cases fd with
    | some t => exact fin t rfl
    | none =>
      have := q I1 b2
      rw [likeA_n.mpr (fun w hw => by
        obtain ⟨l, hl⟩ := List.mem_iff_getElem?.mp hw
        exact b3 rfl l w (by have := (List.getElem?_eq_some_iff.mp hl).1; omega) hl)] at this
      exact this
  · rw [if_neg (by rw [leNN (by omega) (by omega)]; omega)]
    cases fd with
    | some t =>
      obtain ⟨w, w1, _⟩ := likeA_s (b4 t rfl)
      have := (List.getElem?_eq_some_iff.mp w1).1
      rw [if_pos (show (0 : Int32) ≤ enO (some t) from nI0_le (by omega))]
      exact fin t rfl
    | none =>
      have hg := List.getElem?_eq_getElem (show j < ah.length by omega)
      generalize ah[j] = y at hg
      rw [if_neg (by decide)]
      unfold f_Model_likeAhead_b37
      refine m_hasRow hP1 hq hb hu hx hg (fun hr I2 e2 => ?_) (fun hr I2 e2 => ?_)
      · rw [if_neg (by decide), nI_1, forall_eq]
        exact ih (some j) (j + 1) I2 ⟨by omega, b2.tr e2, (fun hh => by cases hh), fun t ht => by cases ht; exact likeA_of hg hr (b3 rfl)⟩ (by omega)
      · rw [if_pos rfl, nI_1, forall_eq]
        refine ih none (j + 1) I2 ⟨by omega, b2.tr e2, (fun _ l y' hl hy' => ?_), (fun t ht => by cases ht)⟩ (by omega)
        by_cases hlj : l = j
        · subst hlj; rw [hg] at hy'; cases hy'; exact hr
        · exact b3 rfl l y' (by omega) hy'
theorem axO_a {a : Nat} (h : a < 4) : axO (nI a) [a] := Or.inr ⟨a, h, rfl, rfl⟩
/-- what the reference's pupil changes -/
def PpF (I I' : MI) (J J' : MJ) : Prop := (∀ i, i ≠ 177 → I' i = I i) ∧ (∀ k, k ≠ 14 → k ≠ 15 → k ≠ 53 → I' 177 k = I 177 k) ∧ ∀ i, i ≠ 215 → J' i = J i
theorem PpF.rf {I : MI} {J : MJ} : PpF I I J J := ⟨fun _ _ => rfl, fun _ _ _ _ => rfl, fun _ _ => rfl⟩
theorem PpF.tr {I I' I'' : MI} {J J' J'' : MJ} (h : PpF I I' J J') (h' : PpF I' I'' J' J'') : PpF I I'' J J'' := ⟨fun i a => (h'.1 i a).trans (h.1 i a), fun k a b c => (h'.2.1 k a b c).trans (h.2.1 k a b c), fun i a => (h'.2.2 i a).trans (h.2.2 i a)⟩
theorem PpF.sc {I I' : MI} {J : MJ} (h : Sc I I') : PpF I I' J J := ⟨fun i a => h.1 i a, fun k a b _ => h.2 k a b, fun _ _ => rfl⟩
theorem m_goesOn_in {S : AM} {ah bh : List (List Nat)} {i : Nat} {w : List Nat} {I : MI} {J : MJ} {k55 : Int32 → MI → MJ → Prop} {k95 : MI → MJ → Prop} (hP : PaM I J S ah bh) (hq : VQ S ah bh) (hb : bh.length ≤ 14) (hw : ah[i]? = some w) (q95 : (∀ a, ¬ badA S ah bh i a) → ∀ I', Sc I I' → k95 I' J) (q55 : ∀ a, a < 4 → badA S ah bh i a → (∀ a', a' < a → ¬ badA S ah bh i a') → ∀ I', Sc I I' → k55 (nI a) I' J) : ∃ n, f_Model_goesOn_L12 (nI i) k55 k95 n 0 I J := by
  have hlen := hq.len
  obtain ⟨hS, h2, h3, h4, h5, h6, h7⟩ := id hq
  have h14 := hS.1.2.2.2.2.1
  have hk4 := hS.1.2.2.1
  have hil := (List.getElem?_eq_some_iff.mp hw).1
  have hwo := h4 w (List.mem_of_getElem? hw)
  have v16 : vp_in 16 20 := (vpN (n := 16) (by decide)).mpr (by decide)
  refine lp2 (fun n2 (a : Nat) (I2 : MI) => f_Model_goesOn_L12 (nI i) k55 k95 n2 (nI a) I2 J) (fun a I2 => a ≤ S.2.1 ∧ Sc I I2 ∧ ∀ a', a' < a → ¬ badA S ah bh i a') (fun a _ => 5 - a) ?_ 0 I ⟨Nat.zero_le _, Sc.rf, fun a' ha => absurd ha (Nat.not_lt_zero _)⟩
  rintro n2 a I2 ⟨c1, c2, c3⟩ ih2
  have hP2 := hP.sc c2
  unfold f_Model_goesOn_L12
  rw [show I2 186 (16 : Int32).toNatClampNeg = nI S.2.1 from hP2.1.2.2.1]
  refine ⟨v16, ?_⟩
  by_cases ea : a = S.2.1
  · rw [if_pos (by rw [ea, leNN (by omega) (by omega)]; exact Nat.le_refl _)]
    refine q95 (fun a' hbd => ?_) I2 c2
    obtain ⟨w', _, k2, _⟩ := id hbd
    exact c3 a' (by omega) hbd
  · rw [if_neg (by rw [leNN (by omega) (by omega)]; omega), vpN (by omega), nI_clamp (by omega), hP2.2.2.2.1 i w hw, show (1 : Int64) = lN (num []) from rfl]
    refine ⟨by omega, m_taught (v := []) (fr := 0) (ax := [a]) hP2.1 hS.1 hwo.1 wOk_nil (Nat.zero_le _) (axO_a (by omega)) (fun I3 e3 => ?_)⟩
    have hsc := c2.tr e3
    have hP3 := hP.sc hsc
    rw [List.drop_nil, List.append_nil, hP3.2.2.2.1 i w hw]
    have k8 := ansF_8' hS.1 (w ++ [a])
    unfold f_Model_goesOn_b89
    have go : ∀ I4, Sc I I4 → ¬ badA S ah bh i a → ∀ t89 : Int32, t89 = nI a + 1 → f_Model_goesOn_L12 (nI i) k55 k95 n2 t89 I4 J := fun I4 e4 hnb t et => by
      rw [et, nI_1 a]
      refine ih2 (a + 1) I4 ⟨by omega, e4, fun a' hi hbd => ?_⟩ (by omega)
      by_cases hh : a' = a
      · rw [hh] at hbd; exact hnb hbd
      · exact c3 a' (by omega) hbd
    by_cases e8 : ansF S (0, 0) (w ++ [a]) = 8
    · rw [if_pos (by rw [e8]; rfl)]
      refine go I3 hsc (fun hbd => ?_)
      obtain ⟨w', k1, k2, k3, k4⟩ := hbd
      rw [hw] at k1
      cases k1
      rw [(ans_is hS.1 _).mp e8] at k3
      cases k3
    · rw [if_neg (by rw [l8, eqNN (by omega) (by decide)]; exact e8)]
      have hsm : (run S (0, 0) (w ++ [a])).isSome := by
        cases hr : run S (0, 0) (w ++ [a]) with
        | none => exact absurd ((ans_is hS.1 _).mpr hr) e8
        | some z => rfl
      refine ⟨by omega, m_likeA (ax := [a]) hP3 hq hb hwo.1 (axO_a (by omega)) (fun I4 e4 => ?_)⟩
      have hsc4 := hsc.tr e4
      cases hla : likeA S ah bh (w ++ [a]) with
      | some j =>
        obtain ⟨y, y1, _⟩ := likeA_s hla
        have := (List.getElem?_eq_some_iff.mp y1).1
        rw [if_pos (show (0 : Int32) ≤ enO (some j) from nI0_le (by omega))]
        refine go I4 hsc4 (fun hbd => ?_)
        obtain ⟨w', k1, k2, k3, k4⟩ := hbd
        rw [hw] at k1
        cases k1
        rw [hla] at k4
        cases k4
      | none =>
        rw [if_neg (by decide)]
        exact q55 a (by omega) ⟨w, hw, by omega, hsm, hla⟩ c3 I4 hsc4
theorem m_goesOn {S : AM} {ah bh : List (List Nat)} {I : MI} {J : MJ} {Q : Int32 → MI → MJ → Prop} (hP : PaM I J S ah bh) (hq : VQ S ah bh) (hb : bh.length ≤ 14) (q0 : (∀ i a, ¬ badA S ah bh i a) → ∀ I', Sc I I' → Q 0 I' J) (q1 : ∀ i a w, fstB S ah bh i a → ah[i]? = some w → ∀ I' J', PpF I I' J J' → PaM I' J' S (ah ++ [w ++ [a]]) bh → Q 1 I' J') : f_Model_goesOn I J Q := by
  unfold f_Model_goesOn
  have hlen := hq.len
  obtain ⟨hS, h2, h3, h4, h5, h6, h7⟩ := id hq
  have h14 := hS.1.2.2.2.2.1
  refine lp2 (fun n (i : Nat) (I1 : MI) => f_Model_goesOn_L2 _ _ n (nI i) I1 J) (fun i I1 => i ≤ ah.length ∧ Sc I I1 ∧ ∀ i' a', i' < i → ¬ badA S ah bh i' a') (fun i _ => ah.length - i) ?_ 0 I ⟨Nat.zero_le _, Sc.rf, fun i' a' hi => absurd hi (Nat.not_lt_zero _)⟩
  rintro n i I1 ⟨b1, b2, b3⟩ ih
  unfold f_Model_goesOn_L2
  rw [(hP.sc b2).2.1]
  by_cases ei : i = ah.length
  · rw [if_pos (by rw [ei, leNN (by omega) (by omega)]; exact Nat.le_refl _)]
    refine q0 (fun j a hbd => ?_) I1 b2
    obtain ⟨w, k1, _⟩ := id hbd
    exact b3 j a (by have := (List.getElem?_eq_some_iff.mp k1).1; omega) hbd
  · have hw := List.getElem?_eq_getElem (show i < ah.length by omega)
    generalize ah[i] = w at hw
    rw [if_neg (by rw [leNN (by omega) (by omega)]; omega)]
    refine m_goesOn_in (hP.sc b2) hq hb hw (fun hnb I2 e2 => ?_) (fun a ha hbd hmin I4 e4 => ?_)
    · rw [nI_1, forall_eq]
      refine ih (i + 1) I2 ⟨by omega, b2.tr e2, fun i' a' hi hbd => ?_⟩ (by omega)
      by_cases hh : i' = i
      · rw [hh] at hbd; exact hnb a' hbd
      · exact b3 i' a' (by omega) hbd
    · have hsc4 := b2.tr e4
      have hP4 := hP.sc hsc4
      have hadd := hq.add hbd hw
      have hlen' := hadd.len
      simp only [List.length_append, List.length_cons, List.length_nil] at hlen'
      rw [vpN (by omega), nI_clamp (by omega), hP4.2.1, vpN (by omega), nI_clamp (by omega), hP4.2.2.2.1 i w hw, nI_l (by omega), show (4 : Int64) = lN 4 from rfl, lN_mul, lN_add, ← num_app, nI_1]
      refine ⟨by omega, by omega, fun J5 j5 I5 e5 => ?_⟩
      refine q1 i a w ⟨hbd, fun i' a' hi hbd' => ?_⟩ hw I5 J5 ((PpF.sc hsc4).tr ⟨fun c u => by rw [e5, sI_n _ _ u], fun k _ _ u => by rw [e5, sI_s, pk_un u], fun c u => by rw [j5, sJ_at, if_neg u]⟩) ?_
      · rcases hi with hi | ⟨hi, hi2⟩
        · exact b3 i' a' hi hbd'
        · rw [hi] at hbd'; exact hmin a' hi2 hbd'
      · obtain ⟨p1, p2, p3, p4, p5⟩ := hP4
        refine ⟨?_, by rw [e5, sI_s, pk_us, List.length_append]; rfl, by rw [e5, sI_s, pk_un (by decide)]; exact p3, fun j y hy => ?_, by rw [show J5 216 = J 216 by rw [j5, sJ_at, if_neg (by decide)]]; exact p5⟩
        · unfold RepM RowM at *
          rw [e5, sI_n _ _ (by decide), sI_n _ _ (by decide), sI_n _ _ (by decide), sI_n _ _ (by decide), sI_n _ _ (by decide), sI_n _ _ (by decide), sI_n _ _ (by decide)]
          exact p1
        · rw [j5, sJ_at, if_pos rfl, updL_at]
          rcases app_get hy with ⟨u1, u2⟩ | ⟨u1, u2⟩
          · rw [if_neg (by omega)]; exact p4 j y u2
          · rw [if_pos u1, u2]
theorem m_close {S : AM} {ah0 bh : List (List Nat)} {I : MI} {J : MJ} {kk : MI → MJ → Prop} (hP : PaM I J S ah0 bh) (hq : VQ S ah0 bh) (hb : bh.length ≤ 14) (q : ∀ ah I' J', ClE S bh ah0 ah → VQ S ah bh → (∀ i a, ¬ badA S ah bh i a) → PaM I' J' S ah bh → PpF I I' J J' → kk I' J') : ∃ n, f_Model_guessed_L4 kk n 1 0 I J := by
  have hS := hq.1
  have h14 := hS.1.2.2.2.2.1
  refine lp4 (fun n (b : Bool) (t : Nat) (I1 : MI) (J1 : MJ) => f_Model_guessed_L4 kk n (if b = true then 1 else 0) (nI t) I1 J1) (fun b t I1 J1 => ∃ ah : List (List Nat), t ≤ ah.length + 1 ∧ (b = true → t < ah.length + 1) ∧ VQ S ah bh ∧ PaM I1 J1 S ah bh ∧ PpF I I1 J J1 ∧ (∀ x, ClE S bh ah x → ClE S bh ah0 x) ∧ (b = false → ∀ i a, ¬ badA S ah bh i a)) (fun b t _ _ => (if b = true then 1 else 0) + (32 - t)) ?_ true 0 I J ⟨ah0, Nat.zero_le _, fun _ => Nat.succ_pos _, hq, hP, PpF.rf, fun _ h => h, (fun hh => by cases hh)⟩
  rintro n b t I1 J1 ⟨ah, b0, b1, b2, b3, b4, b5, b6⟩ ih
  have hlen := b2.len
  unfold f_Model_guessed_L4
  cases b with
  | false =>
    rw [if_pos (show (if false = true then (1 : Int32) else 0) = 0 from rfl)]
    exact q ah I1 J1 (b5 ah (ClE.stop (b6 rfl))) b2 (b6 rfl) b3 b4
  | true =>
    have ht := b1 rfl
    rw [if_neg (by decide), if_neg (by rw [show (32 : Int32) = nI 32 from rfl, leNN (by decide) (by omega)]; omega)]
    refine m_goesOn b3 b2 hb (fun hnb I2 e2 => ?_) (fun i a w hf hw I2 J2 e2 p2 => ?_)
    · rw [nI_1, forall_eq]
      exact ih false (t + 1) I2 J1 ⟨ah, by omega, (fun hh => by cases hh), b2, b3.sc e2, b4.tr (PpF.sc e2), b5, fun _ => hnb⟩ (by simp; omega)
    · rw [nI_1, forall_eq]
      have hadd := b2.add hf.1 hw
      exact ih true (t + 1) I2 J2 ⟨ah ++ [w ++ [a]], by simp; omega, (fun _ => by simp; omega), hadd, p2, b4.tr e2, fun x hx => b5 x (ClE.step hf hw hx), (fun hh => by cases hh)⟩ (by simp; omega)
