/-! the guess is made; learn, the reference -/
def GfL (I I' : MI) : Prop := (∀ c, c ≠ 177 → c ≠ 187 → c ≠ 189 → I' c = I c) ∧ (∀ k, k ≠ 14 → k ≠ 15 → I' 177 k = I 177 k) ∧ (∀ j, (j < 238 ∨ 252 ≤ j) → I' 187 j = I 187 j) ∧ ∀ j, (j < 952 ∨ 1008 ≤ j) → I' 189 j = I 189 j
theorem GfL.rf {I : MI} : GfL I I := ⟨fun _ _ _ _ => rfl, fun _ _ _ => rfl, fun _ _ => rfl, fun _ _ => rfl⟩
theorem GfL.tr {I I' I'' : MI} (h : GfL I I') (h' : GfL I' I'') : GfL I I'' := ⟨fun c a b d => (h'.1 c a b d).trans (h.1 c a b d), fun k a b => (h'.2.1 k a b).trans (h.2.1 k a b), fun j a => (h'.2.2.1 j a).trans (h.2.2.1 j a), fun j a => (h'.2.2.2 j a).trans (h.2.2.2 j a)⟩
theorem GfL.sc {I I' : MI} (h : Sc I I') : GfL I I' := ⟨fun c a _ _ => h.1 c a, h.2, fun j _ => by rw [h.1 187 (by decide)], fun j _ => by rw [h.1 189 (by decide)]⟩
theorem GfL.me {I I' : MI} {q : Nat} (h : GfL I I') (hq : q < 20) (h17 : q ≠ 17) : MEq I I' q := by
  refine MEq.oth (by rw [h.1 184 (by decide) (by decide) (by decide)]) (by rw [h.1 185 (by decide) (by decide) (by decide)]) (by rw [h.1 186 (by decide) (by decide) (by decide)]) (fun j a b => ⟨h.2.2.1 j (by omega), by rw [h.1 188 (by decide) (by decide) (by decide)]⟩) (fun j a b => ⟨h.2.2.2 j (by omega), by rw [h.1 190 (by decide) (by decide) (by decide)]⟩)
theorem PaM.gf {I I' : MI} {J : MJ} {S : AM} {ah bh : List (List Nat)} (h : PaM I J S ah bh) (hv : VA S) (e : GfL I I') : PaM I' J S ah bh := ⟨h.1.kp hv (e.me (by decide) (by decide)), by rw [e.2.1 53 (by decide) (by decide)]; exact h.2.1, by rw [e.2.1 54 (by decide) (by decide)]; exact h.2.2.1, h.2.2.2.1, h.2.2.2.2⟩
theorem m_guess_in {S : AM} {ah bh : List (List Nat)} {i : Nat} {w : List Nat} {I : MI} {J : MJ} {k152 : MI → MJ → Prop} (hP : PaM I J S ah bh) (hq : VQ S ah bh) (hb : bh.length ≤ 14) (hw : ah[i]? = some w) (q : ∀ I', GfL I I' → I' 187 = I 187 → (∀ j, (j < 4 * (238 + i) ∨ 4 * (238 + i) + 4 ≤ j) → I' 189 j = I 189 j) → (∀ a, a < S.2.1 → I' 189 (4 * (238 + i) + a) = enO (gT S ah bh w a)) → k152 I' J) : ∃ n, f_Model_guessed_L78 (nI i) k152 n 0 I J := by
  have hlen := hq.len
  obtain ⟨hS, h2, h3, h4, h5, h6, h7⟩ := id hq
  have h14 := hS.1.2.2.2.2.1
  have hk4 := hS.1.2.2.1
  have hil := (List.getElem?_eq_some_iff.mp hw).1
  have hwo := h4 w (List.mem_of_getElem? hw)
  have v16 : vp_in 16 20 := (vpN (n := 16) (by decide)).mpr (by decide)
  refine lp2 (fun n (a : Nat) (I2 : MI) => f_Model_guessed_L78 (nI i) k152 n (nI a) I2 J) (fun a I2 => a ≤ S.2.1 ∧ GfL I I2 ∧ I2 187 = I 187 ∧ (∀ j, (j < 4 * (238 + i) ∨ 4 * (238 + i) + 4 ≤ j) → I2 189 j = I 189 j) ∧ ∀ b, b < a → I2 189 (4 * (238 + i) + b) = enO (gT S ah bh w b)) (fun a _ => 5 - a) ?_ 0 I ⟨Nat.zero_le _, GfL.rf, rfl, fun _ _ => rfl, fun b hb => absurd hb (Nat.not_lt_zero _)⟩
  rintro n a I2 ⟨c1, c2, c3, c4, c5⟩ ih
  have hP2 := hP.gf hS.1 c2
  unfold f_Model_guessed_L78
  rw [show I2 186 (16 : Int32).toNatClampNeg = nI S.2.1 from hP2.1.2.2.1]
  refine ⟨v16, ?_⟩
  by_cases ea : a = S.2.1
  · rw [if_pos (by rw [ea, leNN (by omega) (by omega)]; exact Nat.le_refl _)]
    subst ea
    exact q I2 c2 c3 c4 c5
  · rw [if_neg (by rw [leNN (by omega) (by omega)]; omega), vpN (by omega), nI_clamp (by omega), hP2.2.2.2.1 i w hw, show (1 : Int64) = lN (num []) from rfl]
    refine ⟨by omega, m_taught (v := []) (fr := 0) (ax := [a]) hP2.1 hS.1 hwo.1 wOk_nil (Nat.zero_le _) (axO_a (by omega)) (fun I3 e3 => ?_)⟩
    rw [List.drop_nil, List.append_nil]
    have k8 := ansF_8' hS.1 (w ++ [a])
    have hP3 := hP2.sc e3
    have put : ∀ (x : Option Nat) (I4 : MI), Sc I2 I4 → x = gT S ah bh w a → f_Model_guessed_b145 (nI a) (nI (4 * (14 * 17 + i) + a)) (enO x) (f_Model_guessed_L78 (nI i) k152 n) I4 J := fun x I4 e4 hx => by
      unfold f_Model_guessed_b145
      rw [vpN (by omega), nI_clamp (by omega)]
      refine ⟨by omega, fun I5 e5 t et => ?_⟩
      rw [et, nI_1 a]
      have m9 : ∀ j, I5 189 j = if j = 4 * (14 * 17 + i) + a then enO x else I2 189 j := fun j => by rw [e5, sI_s, upd_at, e4.1 189 (by decide)]
      refine ih (a + 1) I5 ⟨by omega, (c2.tr (GfL.sc e4)).tr ⟨fun c _ _ u => by rw [e5, sI_n _ _ u], fun k _ _ => by rw [e5, sI_n _ _ (by decide)], fun j _ => by rw [e5, sI_n _ _ (by decide)], fun j hj => by rw [e5, sI_s, upd_at, if_neg (by omega)]⟩, by rw [e5, sI_n _ _ (by decide), e4.1 187 (by decide)]; exact c3, fun j hj => by rw [m9, if_neg (by omega)]; exact c4 j hj, fun b hb => ?_⟩ (by omega)
      rw [m9]
      by_cases hba : b = a
      · rw [if_pos (by omega), hba, hx]
      · rw [if_neg (by omega)]; exact c5 b (by omega)
    unfold f_Model_guessed_b112
    rw [show (17 : Int32) = nI 17 from rfl]
    by_cases e8 : ansF S (0, 0) (w ++ [a]) = 8
    · rw [if_pos (by rw [e8]; rfl), spotN, if_pos rfl]
      exact put none I3 e3 (by unfold gT; rw [(ans_is hS.1 _).mp e8]; rfl)
    · rw [if_neg (by rw [l8, eqNN (by omega) (by decide)]; exact e8), spotN, if_neg (by decide), vpN (by omega), nI_clamp (by omega), hP3.2.2.2.1 i w hw]
      refine ⟨by omega, m_likeA (ax := [a]) hP3 hq hb hwo.1 (axO_a (by omega)) (fun I4 e4 => put _ I4 (e3.tr e4) ?_)⟩
      unfold gT
      have hsm : (run S (0, 0) (w ++ [a])).isSome := by
        cases hr : run S (0, 0) (w ++ [a]) with
        | none => exact absurd ((ans_is hS.1 _).mpr hr) e8
        | some z => rfl
      rw [if_pos hsm]
def GuF (I I' : MI) : Prop := (∀ c, (c < 184 ∨ 190 < c) → c ≠ 177 → I' c = I c) ∧ (∀ k, k ≠ 14 → k ≠ 15 → k ≠ 56 → I' 177 k = I 177 k) ∧ ∀ q, q < 20 → q ≠ 17 → MEq I I' q
theorem m_guess {S : AM} {ah bh : List (List Nat)} {I : MI} {J : MJ} {Q : Int32 → MI → MJ → Prop} (hP : PaM I J S ah bh) (hq : VQ S ah bh) (hb : bh.length ≤ 14) (q : ∀ I', GuF I I' → I' 177 56 = I 177 56 + 1 → RepM I' 17 (mkG S ah bh) → Q (nI ah.length) I' J) : f_Model_guessed_b25 Q I J := by
  have hlen := hq.len
  obtain ⟨hS, h2, h3, h4, h5, h6, h7⟩ := id hq
  have h14 := hS.1.2.2.2.2.1
  have hk4 := hS.1.2.2.1
  unfold f_Model_guessed_b25
  rw [hP.2.1, show I 186 (16 : Int32).toNatClampNeg = nI S.2.1 from hP.1.2.2.1]
  refine ⟨(vpN (n := 16) (by decide)).mpr (by decide), clearK (m := 17) (kd := 0) (by decide) (fun I1 f1 f2 f3 f4 f5 f6 f7 => ?_)⟩
  have me1 : ∀ q, q < 20 → q ≠ 17 → MEq I I1 q := fun q h20 hq' => MEq.oth (f3 q hq').1 (f3 q hq').2.1 (f3 q hq').2.2 (fun j a b => ⟨by rw [f4, if_neg (by omega)], by rw [f5, if_neg (by omega)]⟩) (fun j a b => ⟨by rw [f6, if_neg (by omega)], by rw [f7, if_neg (by omega)]⟩)
  have hP1 : PaM I1 J S ah bh := ⟨hP.1.kp hS.1 (me1 16 (by decide) (by decide)), by rw [f1 177 (by omega)]; exact hP.2.1, by rw [f1 177 (by omega)]; exact hP.2.2.1, hP.2.2.2.1, hP.2.2.2.2⟩
  refine lp2 (fun n (i : Nat) (I2 : MI) => f_Model_guessed_L45 _ n (nI i) I2 J) (fun i I2 => i ≤ ah.length ∧ GfL I1 I2 ∧ ∀ (u : Nat) (w : List Nat), u < i → ah[u]? = some w → I2 187 (238 + u) = nI (ansF S (0, 0) w) ∧ ∀ a, a < S.2.1 → I2 189 (4 * (238 + u) + a) = enO (gT S ah bh w a)) (fun i _ => ah.length - i) ?_ 0 I1 ⟨Nat.zero_le _, GfL.rf, fun u w hu => absurd hu (Nat.not_lt_zero _)⟩
  rintro n i I2 ⟨b1, b2, b3⟩ ih
  have hP2 := hP1.gf hS.1 b2
  unfold f_Model_guessed_L45
  rw [hP2.2.1]
  by_cases ei : i = ah.length
  · rw [if_pos (by rw [ei, leNN (by omega) (by omega)]; exact Nat.le_refl _)]
    have raw : RawM I2 17 (gSt S ah bh) := by
      intro u z r hz hr
      obtain ⟨w, hw, rfl⟩ := gSt_get hz
      have hu := (List.getElem?_eq_some_iff.mp hw).1
      obtain ⟨t1, t2⟩ := b3 u w (by omega) hw
      refine ⟨t1, fun a x hx => ?_⟩
      cases hr
      obtain ⟨a1, rfl⟩ := rng_get hx
      exact t2 a a1
    refine m_name (m := 17) (n := ah.length) (k := S.2.1) (qs := gSt S ah bh) (by decide) ?_ (by rw [gSt_len]; omega) ?_ (by omega) (by omega) raw (gSt_full hS (fun w hw => (h4 w hw).2)) (fun I3 g1 g2 g3 r3 I4 e4 => ?_)
    · rw [b2.1 185 (by decide) (by decide) (by decide), f2.2.1, gSt_len]
    · rw [b2.1 186 (by decide) (by decide) (by decide), f2.2.2]
    · have f4' : ∀ c, c ≠ 177 → I4 c = I3 c := fun c u => by rw [e4, sI_n _ _ u]
      have e53 : I4 177 53 = nI ah.length := by rw [e4, sI_s, pk_un (by decide), g1 177 (by decide) (by decide)]; exact hP2.2.1
      rw [e53]
      refine q I4 ⟨fun c u v => by rw [f4' c v, g1 c (by omega) (by omega), b2.1 c v (by omega) (by omega), f1 c u], fun k u v w => by rw [e4, sI_s, pk_un w, g1 177 (by decide) (by decide), b2.2.1 k u v, f1 177 (by omega)], fun q h20 hq' => ?_⟩ (by rw [e4, sI_s, pk_us, g1 177 (by decide) (by decide), b2.2.1 56 (by decide) (by decide), f1 177 (by omega)]) ?_
      · refine ((me1 q h20 hq').tr (b2.me h20 hq')).tr (MEq.oth (by rw [f4' 184 (by decide)]; exact g2 q hq') (by rw [f4' 185 (by decide), g1 185 (by decide) (by decide)]) (by rw [f4' 186 (by decide), g1 186 (by decide) (by decide)]) (fun j a b => ⟨by rw [f4' 187 (by decide), g1 187 (by decide) (by decide)], by rw [f4' 188 (by decide)]; exact g3 j (by omega)⟩) (fun j a b => ⟨by rw [f4' 189 (by decide), g1 189 (by decide) (by decide)], by rw [f4' 190 (by decide), g1 190 (by decide) (by decide)]⟩))
      · unfold RepM RowM at *
        rw [f4' 184 (by decide), f4' 185 (by decide), f4' 186 (by decide), f4' 187 (by decide), f4' 188 (by decide), f4' 189 (by decide), f4' 190 (by decide)]
        exact r3
  · have hw := List.getElem?_eq_getElem (show i < ah.length by omega)
    generalize ah[i] = w at hw
    have hwo := h4 w (List.mem_of_getElem? hw)
    rw [if_neg (by rw [leNN (by omega) (by omega)]; omega), vpN (by omega), nI_clamp (by omega), hP2.2.2.2.1 i w hw, show (1 : Int64) = lN (num []) from rfl]
    refine ⟨by omega, m_taught (v := []) (fr := 0) (ax := []) (x := -1) hP2.1 hS.1 hwo.1 wOk_nil (Nat.zero_le _) (Or.inl ⟨by decide, rfl⟩) (fun I3 e3 => ?_)⟩
    rw [List.drop_nil, List.append_nil, List.append_nil, show (238 : Int32) = nI 238 from rfl, nI_add, vpN (by omega), nI_clamp (by omega)]
    refine ⟨by omega, fun I4 e4 => ?_⟩
    have g4 : GfL I1 I4 := (b2.tr (GfL.sc e3)).tr ⟨fun c _ u _ => by rw [e4, sI_n _ _ u], fun k _ _ => by rw [e4, sI_n _ _ (by decide)], fun j hj => by rw [e4, sI_s, upd_at, if_neg (by omega)], fun j _ => by rw [e4, sI_n _ _ (by decide)]⟩
    have m7 : ∀ j, I4 187 j = if j = 238 + i then nI (ansF S (0, 0) w) else I2 187 j := fun j => by rw [e4, sI_s, upd_at, e3.1 187 (by decide)]
    have m9 : ∀ j, I4 189 j = I2 189 j := fun j => by rw [e4, sI_n _ _ (by decide), e3.1 189 (by decide)]
    refine m_guess_in (hP1.gf hS.1 g4) hq hb hw (fun I5 g5 d1 d2 d3 t et => ?_)
    rw [et, nI_1 i]
    refine ih (i + 1) I5 ⟨by omega, g4.tr g5, fun u w' hu hw' => ?_⟩ (by omega)
    rw [d1, m7]
    by_cases hui : u = i
    · subst hui
      rw [hw] at hw'
      cases hw'
      exact ⟨by rw [if_pos rfl], d3⟩
    · obtain ⟨t1, t2⟩ := b3 u w' (by omega) hw'
      refine ⟨by rw [if_neg (by omega)]; exact t1, fun a ha => ?_⟩
      rw [d2 _ (by omega), m9]
      exact t2 a ha
theorem AbsM.pup {I I' : MI} {J J' : MJ} {σ : SG} {P : Option PU} (h : AbsM I J σ) (e7 : I' 177 13 = I 177 13 ∧ I' 177 59 = I 177 59) (e : ∀ i, ((178 ≤ i ∧ i ≤ 183) ∨ i = 218) → I' i = I i) (em : ∀ q, q < 16 → MEq I I' q) (ej : J' 180 = J 180 ∧ J' 217 = J 217) (hp : PuM I' J' P) : AbsM I' J' (setP σ P) := by
  obtain ⟨h1, h2, h3, h4⟩ := h
  refine ⟨fun q hq => ?_, by rw [e7.1]; exact h2, hp, h4.kp e7.2 (e 218 (by omega)) ej.2⟩
  exact ⟨(h1 q hq).1.kp ⟨by rw [e 178 (by omega)], by rw [e 179 (by omega)], by rw [e 181 (by omega)]⟩ (em q (by omega)) (fun i _ => by rw [ej.1]), (h1 q hq).2.kp ⟨by rw [e 183 (by omega)], by rw [e 182 (by omega)]⟩⟩
theorem PuM_of {S : AM} {l : Nat} {ah bh : List (List Nat)} {t : Int64} {I : MI} {J : MJ} (hP : PaM I J S ah bh) (hq : VQ S ah bh) (hc : ∀ i a, ¬ badA S ah bh i a) (hl : l ≤ 30) (hb : bh.length ≤ ah.length) (e0 : I 177 49 = 1) (e1 : I 177 50 = nI l) (e4 : I 177 56 = nI bh.length) (e5 : J 177 55 = t) (hg : RepM I 17 (mkG S ah bh)) : PuM I J (some (S, l, ah, bh, t)) := ⟨e0, e1, hP.2.1, hP.2.2.1, e4, e5, hP.1, hg, hP.2.2.2.1, hP.2.2.2.2, VP_of hq hl hb hc⟩
theorem PaM.gu {I I' : MI} {J : MJ} {S : AM} {ah bh : List (List Nat)} (h : PaM I J S ah bh) (hv : VA S) (e : GuF I I') : PaM I' J S ah bh := ⟨h.1.kp hv (e.2.2 16 (by decide) (by decide)), by rw [e.2.1 53 (by decide) (by decide) (by decide)]; exact h.2.1, by rw [e.2.1 54 (by decide) (by decide) (by decide)]; exact h.2.2.1, h.2.2.2.1, h.2.2.2.2⟩
theorem M_learn {x : Int32} {I : MI} {J : MJ} {σ : SG} {Q : Int32 → MI → MJ → Prop} (h : AbsM I J σ) (q : KM I J (opLearn x σ) Q) : f_Model_learn x I J Q := by
  unfold f_Model_learn
  unfold opLearn at q
  rcases plc_cases x with ⟨p, hp, rfl, ep⟩ | ⟨hb, ep⟩
  · rw [ep] at q
    simp only at q
    have hPl := (h.1 p hp).1
    rw [m_isPlaceN hp, if_neg (by decide), vpN (by omega), nI_clamp (by omega), hPl.lie]
    refine ⟨hp, ?_⟩
    cases ht : σ.1 p with
    | none =>
      rw [ht] at q
      rw [show thK none = -1 from rfl, if_neg (by decide)]
      exact KM.ref q h
    | some z =>
      rw [ht] at q hPl
      cases z with
      | inl A =>
        simp only at q
        have hk : A.1 ≤ 3 := hPl.2.2.1
        rw [thK_l, if_pos (nI0_le (by omega)), if_neg (by rw [l4, eqNN (by omega) (by decide)]; omega), if_neg (by rw [l5, eqNN (by omega) (by decide)]; omega)]
        exact ⟨hp, hp, KM.ref q h⟩
      | inr t =>
        simp only at q
        obtain ⟨g1, g2, g3, g4, g5, g6⟩ := hPl
        have hk := g3.1
        rw [thK_r, if_pos (nI0_le (by omega))]
        refine ⟨hp, ?_⟩
        by_cases h2 : t.1 = 2
        · rw [if_pos h2] at q
          rw [if_neg (by rw [l4, eqNN (by omega) (by decide)]; omega), if_neg (by rw [l5, eqNN (by omega) (by decide)]; omega)]
          exact ⟨hp, KM.ref q h⟩
        · rw [if_neg h2] at q
          have core : f_Model_learn_b54 (nI p) Q I J := by
            unfold f_Model_learn_b54
            have hS := g3.2.1
            rw [l16]
            refine m_become (by decide) (by omega) (by omega) g2 hS.1 (fun I1 b1 b2 b3 => ?_)
            rw [vpN (by omega), nI_clamp (by omega), b1 179 (by omega), g4]
            refine ⟨hp, fun I2 e2 I3 e3 => ⟨vp0 (by decide), fun J1 j1 => ⟨vp0 (by decide), fun J2 j2 I4 e4 I5 e5 J3 j3 I6 e6 => ?_⟩⟩⟩
            rw [show (0 : Int32).toNatClampNeg = 0 from rfl] at j1 j2
            have f6 : ∀ c, c ≠ 177 → I6 c = I1 c := fun c u => by rw [e6, sI_n _ _ u, e5, sI_n _ _ u, e4, sI_n _ _ u, e3, sI_n _ _ u, e2, sI_n _ _ u]
            have f177 : ∀ k, k ≠ 50 → k ≠ 49 → k ≠ 53 → k ≠ 54 → k ≠ 56 → I6 177 k = I 177 k := fun k a b c d e => by rw [e6, sI_s, pk_un e, e5, sI_s, pk_un d, e4, sI_s, pk_un c, e3, sI_s, pk_un b, e2, sI_s, pk_un a, b1 177 (by omega)]
            have c0 : I6 177 49 = 1 := by rw [e6, sI_s, pk_un (by decide), e5, sI_s, pk_un (by decide), e4, sI_s, pk_un (by decide), e3, sI_s, pk_us]
            have c1 : I6 177 50 = nI t.2.2.1 := by rw [e6, sI_s, pk_un (by decide), e5, sI_s, pk_un (by decide), e4, sI_s, pk_un (by decide), e3, sI_s, pk_un (by decide), e2, sI_s, pk_us]
            have c2 : I6 177 53 = nI 1 := by rw [e6, sI_s, pk_un (by decide), e5, sI_s, pk_un (by decide), e4, sI_s, pk_us]; rfl
            have c3 : I6 177 54 = nI 1 := by rw [e6, sI_s, pk_un (by decide), e5, sI_s, pk_us]; rfl
            have c4 : I6 177 56 = nI 0 := by rw [e6, sI_s, pk_us]; rfl
            have c5 : J3 177 55 = 0 := by rw [j3, sJ_at, if_pos rfl, updL_at, if_pos rfl]
            have jf : ∀ c, c ≠ 177 → c ≠ 215 → c ≠ 216 → J3 c = J c := fun c u v w => by rw [j3, sJ_at, if_neg u, j2, sJ_at, if_neg w, j1, sJ_at, if_neg v]
            have one : ∀ (i : Nat) (w : List Nat), ([[]] : List (List Nat))[i]? = some w → i = 0 ∧ w = [] := fun i w hw => by
              have hi := (List.getElem?_eq_some_iff.mp hw).1
              simp at hi
              subst hi
              have hw' : [] = w := by simpa using hw
              exact ⟨rfl, hw'.symm⟩
            have pa : PaM I6 J3 t.2.1 [[]] [[]] := by
              refine ⟨?_, c2, c3, fun i w hw => ?_, fun i w hw => ?_⟩
              · unfold RepM RowM at *
                rw [f6 184 (by decide), f6 185 (by decide), f6 186 (by decide), f6 187 (by decide), f6 188 (by decide), f6 189 (by decide), f6 190 (by decide)]
                exact b3
              · obtain ⟨rfl, rfl⟩ := one i w hw
                rw [j3, sJ_at, if_neg (by decide), j2, sJ_at, if_neg (by decide), j1, sJ_at, if_pos rfl, updL_at, if_pos rfl]
                rfl
              · obtain ⟨rfl, rfl⟩ := one i w hw
                rw [j3, sJ_at, if_neg (by decide), j2, sJ_at, if_pos rfl, updL_at, if_pos rfl]
                rfl
            unfold f_Model_guessed
            refine m_close pa (VQ_0 hS) (by decide) (fun ah I7 J7 hcl hq hnb pa7 fr7 => ?_)
            refine m_guess pa7 hq (by decide) (fun I8 gu8 e56 rg => ?_)
            have hah : clo t.2.1 [[]] [[]] = ah := clo_eq hcl
            rw [hah] at q
            have h1l : 1 ≤ ah.length := by have := (List.getElem?_eq_some_iff.mp hq.2.1).1; omega
            have k177 : ∀ k, k ≠ 14 → k ≠ 15 → k ≠ 53 → k ≠ 56 → I8 177 k = I6 177 k := fun k a b c d => by rw [gu8.2.1 k a b d, fr7.2.1 k a b c]
            have pu : PuM I8 J7 (some (t.2.1, t.2.2.1, ah, [[]], 0)) := PuM_of (pa7.gu hS.1 gu8) hq hnb g3.2.2.1 h1l (by rw [k177 49 (by decide) (by decide) (by decide) (by decide)]; exact c0) (by rw [k177 50 (by decide) (by decide) (by decide) (by decide)]; exact c1) (by rw [e56, fr7.2.1 56 (by decide) (by decide) (by decide), c4]; rfl) (by rw [fr7.2.2 177 (by decide)]; exact c5) rg
            have fI : ∀ c, (c < 177 ∨ (177 < c ∧ c < 184) ∨ 190 < c) → I8 c = I c := fun c hc => by rw [gu8.1 c (by omega) (by omega), fr7.1 c (by omega), f6 c (by omega), b1 c (by omega)]
            have fJ : ∀ c, c ≠ 177 → c ≠ 215 → c ≠ 216 → J7 c = J c := fun c u v w => by rw [fr7.2.2 c v, jf c u v w]
            refine KM.don q ⟨fun i hi => fI i (by omega), fun i hi => fJ i (by omega) (by omega) (by omega)⟩ (h.pup ⟨by rw [k177 13 (by decide) (by decide) (by decide) (by decide), f177 13 (by decide) (by decide) (by decide) (by decide) (by decide)], by rw [k177 59 (by decide) (by decide) (by decide) (by decide), f177 59 (by decide) (by decide) (by decide) (by decide) (by decide)]⟩ (fun i hi => fI i (by omega)) (fun q hq' => ?_) ⟨fJ 180 (by decide) (by decide) (by decide), fJ 217 (by decide) (by decide) (by decide)⟩ pu)
            exact ((b2 q (by omega) (by omega)).tr (MEq.of (fun i a b => by rw [fr7.1 i (by omega), f6 i (by omega)]))).tr (gu8.2.2 q (by omega) (by omega))
          by_cases h0 : t.1 = 0
          · rw [if_pos (by rw [h0]; rfl)]
            exact core
          · have h1 : t.1 = 1 := by omega
            rw [if_neg (by rw [h1]; decide), if_pos (by rw [h1]; rfl)]
            exact ⟨hp, core⟩
  · rw [ep] at q
    rw [m_isPlaceB hb, if_pos rfl]
    exact KM.ref q h
