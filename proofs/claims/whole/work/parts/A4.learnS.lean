/-! the guess is made; learn, the class -/
noncomputable section
def gT (S : AM) (ah bh : List (List Nat)) (w : List Nat) (a : Nat) : Option Nat := if (run S (0, 0) (w ++ [a])).isSome then likeA S ah bh (w ++ [a]) else none
end
theorem gSt_get {S : AM} {ah bh : List (List Nat)} {s : Nat} {q : Option ROW × Nat} (h : (gSt S ah bh)[s]? = some q) : ∃ w, ah[s]? = some w ∧ q = (some ((List.range S.2.1).map (fun a => (gT S ah bh w a, 0))), ansF S (0, 0) w) := by
  unfold gSt at h
  rw [List.getElem?_map] at h
  cases hw : ah[s]? with
  | none => rw [hw] at h; cases h
  | some w =>
    rw [hw] at h
    cases h
    exact ⟨w, rfl, rfl⟩
theorem s_guess {S : AM} {ah bh : List (List Nat)} {I : MI} {J : MJ} {Q : MI → MJ → Prop} (hP : PaS I J S ah bh) (hq : VQ S ah bh) (hb : bh.length ≤ 14) (q : ∀ I', (∀ i, i ≠ 37 → (i < 43 ∨ 47 < i) → I' i = I i) → (∀ k, k ≠ 4 → I' 37 k = I 37 k) → I' 37 4 = I 37 4 + 1 → RepC I' 43 (mkG S ah bh) → Q I' J) : f_Pupil_makeGuess I J Q := by
  have hlen := hq.len
  obtain ⟨hS, h2, h3, h4, h5, h6, h7⟩ := id hq
  have h14 := hS.1.2.2.2.2.1
  have hk4 := hS.1.2.2.1
  unfold f_Pupil_makeGuess
  rw [hP.2.1, hP.1.2.2.1, l2]
  refine beginK (fun I1 f1 f2 f3 f4 f5 => ?_) (by omega) hk4
  have hn1 : I1 43 1 = nI ah.length := by have := f3.2.1; rw [newA_n] at this; exact this
  have hn2 : I1 43 2 = nI S.2.1 := f3.2.2.1
  have pk : ∀ I2, (∀ c, c ≠ 45 → c ≠ 47 → I2 c = I1 c) → PaS I2 J S ah bh := fun I2 e => hP.kp (fun i hi => by rw [e i (by omega) (by omega), f1 i (by omega)]) ⟨by rw [e 37 (by decide) (by decide), f1 37 (by omega)], by rw [e 37 (by decide) (by decide), f1 37 (by omega)]⟩ ⟨rfl, rfl⟩
  refine lp2 (fun n (i : Nat) (I2 : MI) => f_Pupil_makeGuess_L21 _ n (nI i) I2 J) (fun i I2 => i ≤ ah.length ∧ (∀ c, c ≠ 45 → c ≠ 47 → I2 c = I1 c) ∧ ∀ (u : Nat) (w : List Nat), u < i → ah[u]? = some w → I2 47 u = nI (ansF S (0, 0) w) ∧ ∀ a, a < S.2.1 → I2 45 (u * 4 + a) = enO (gT S ah bh w a)) (fun i _ => ah.length - i) ?_ 0 I1 ⟨Nat.zero_le _, fun _ _ _ => rfl, fun u w hu => absurd hu (Nat.not_lt_zero _)⟩
  rintro n i I2 ⟨b1, b2, b3⟩ ih
  have hP2 := pk I2 b2
  unfold f_Pupil_makeGuess_L21
  rw [hP2.2.1]
  by_cases ei : i = ah.length
  · rw [if_pos (by rw [ei, leNN (by omega) (by omega)]; exact Nat.le_refl _)]
    have e1 : I2 43 1 = nI (gSt S ah bh).length := by rw [gSt_len, b2 43 (by decide) (by decide)]; exact hn1
    have e2 : I2 43 2 = nI S.2.1 := by rw [b2 43 (by decide) (by decide)]; exact hn2
    have rows : ∀ (u : Nat) (z : Option ROW × Nat), (gSt S ah bh)[u]? = some z → RowC I2 43 u z := by
      intro u z hz
      obtain ⟨w, hw, rfl⟩ := gSt_get hz
      have hu := (List.getElem?_eq_some_iff.mp hw).1
      obtain ⟨t1, t2⟩ := b3 u w (by omega) hw
      refine ⟨t1, (fun hh => by cases hh), fun r' hr' => ?_⟩
      cases hr'
      refine ⟨by rw [b2 (43 + 1) (by decide) (by decide), (f4 u (by omega)).1]; simp, fun a x hx => ?_⟩
      obtain ⟨a1, rfl⟩ := rng_get hx
      refine ⟨t2 a a1, ?_⟩
      rw [b2 (43 + 3) (by decide) (by decide), (f5 (u * 4 + a) (by omega)).2]
      rfl
    refine s_settle e1 (by rw [gSt_len]; omega) e2 (by omega) (by omega) rows (gSt_full hS (fun w hw => (h4 w hw).2)) (fun I3 e3 I4 e4 => ?_)
    have f37 : I3 37 = I 37 := by rw [e3, sI_n _ _ (by decide), b2 37 (by decide) (by decide), f1 37 (by omega)]
    rw [f37] at e4
    have r3 := settled e1 e2 rows e3
    refine q I4 (fun c u v => by rw [e4, sI_n _ _ u, e3, sI_n _ _ (by omega), b2 c (by omega) (by omega), f1 c (by omega)]) (fun k hk => by rw [e4, sI_s, pk_un hk]) (by rw [e4, sI_s, pk_us]) (r3.kp (fun c u v => by rw [e4, sI_n _ _ (by omega)]))
  · have hw := List.getElem?_eq_getElem (show i < ah.length by omega)
    generalize ah[i] = w at hw
    have hwr := (h4 w (List.mem_of_getElem? hw)).2
    have he := end_run hS hwr
    obtain ⟨z, hz⟩ := VA.get he.2
    have hans : ansF S (0, 0) w = z.2 := by
      have := ans_end hS hwr []
      rw [List.append_nil, ansF_nil] at this
      rw [this]
      exact anS_of hz
    rw [if_neg (by rw [leNN (by omega) (by omega)]; omega), vpN (by omega), nI_clamp (by omega), (hP2.2.2.2.1 i w hw).2, vpN (by omega), nI_clamp (by omega), (hP2.1.2.2.2 _ z hz).1, ← hans]
    refine ⟨by omega, by omega, by omega, fun I3 e3 => ?_⟩
    refine lp2 (fun n2 (a : Nat) (I4 : MI) => f_Pupil_makeGuess_L54 (nI i) _ n2 (nI a) I4 J) (fun a I4 => a ≤ S.2.1 ∧ (∀ c, c ≠ 45 → I4 c = I3 c) ∧ (∀ j, (j < i * 4 ∨ i * 4 + 4 ≤ j) → I4 45 j = I3 45 j) ∧ ∀ b, b < a → I4 45 (i * 4 + b) = enO (gT S ah bh w b)) (fun a _ => 5 - a) ?_ 0 I3 ⟨Nat.zero_le _, fun _ _ => rfl, fun _ _ => rfl, fun b hb => absurd hb (Nat.not_lt_zero _)⟩
    rintro n2 a I4 ⟨c1, c2, c3, c4⟩ ih2
    have hP4 := pk I4 (fun c u v => by rw [c2 c u, e3, sI_n _ _ v, b2 c u v])
    unfold f_Pupil_makeGuess_L54
    rw [hP4.1.2.2.1]
    by_cases ea : a = S.2.1
    · rw [if_pos (by rw [ea, leNN (by omega) (by omega)]; exact Nat.le_refl _), nI_1, forall_eq]
      refine ih (i + 1) I4 ⟨by omega, fun c u v => by rw [c2 c u, e3, sI_n _ _ v, b2 c u v], fun u w' hu hw' => ?_⟩ (by omega)
      by_cases hui : u = i
      · subst hui
        rw [hw] at hw'
        cases hw'
        exact ⟨by rw [c2 47 (by decide), e3, sI_s, pk_us], fun b hb => c4 b (by omega)⟩
      · obtain ⟨t1, t2⟩ := b3 u w' (by omega) hw'
        refine ⟨by rw [c2 47 (by decide), e3, sI_s, pk_un hui]; exact t1, fun b hb => ?_⟩
        rw [c3 _ (by omega), e3, sI_n _ _ (by decide)]
        exact t2 b hb
    · have hsn := run_snoc hS hwr a
      rw [if_neg (by rw [leNN (by omega) (by omega)]; omega), vpN (by omega), nI_clamp (by omega), (hP4.2.2.2.1 i w hw).2, s_lead hP4.1 hS.1 (by omega) (by omega)]
      refine ⟨by omega, ?_⟩
      have go : ∀ x, x = gT S ah bh w a → f_Pupil_makeGuess_b106 (nI a) ((nI i * 4) + nI a) (enO x) (f_Pupil_makeGuess_L54 (nI i) (fun (I : MI) (J : MJ) => ∀ t113 : Int32, t113 = nI i + 1 → f_Pupil_makeGuess_L21 (fun (I : MI) (J : MJ) => f_Machine_settleKind 43 I J (fun I123 J123 => ∀ I133 : MI, I133 = sI I123 37 (upd (I123 37) 4 ((I123 37 4) + 1)) → Q I133 J123)) n t113 I J) n2) I4 J := fun x hx => by
        unfold f_Pupil_makeGuess_b106
        rw [l4, pk_mul, nI_add, vpN (by omega), nI_clamp (by omega)]
        refine ⟨by omega, fun I5 e5 t et => ?_⟩
        rw [et, nI_1 a]
        refine ih2 (a + 1) I5 ⟨by omega, fun c u => by rw [e5, sI_n _ _ u, c2 c u], fun j hj => by rw [e5, sI_s, upd_at, if_neg (by omega)]; exact c3 j hj, fun b hb => ?_⟩ (by omega)
        rw [e5, sI_s, upd_at]
        by_cases hba : b = a
        · rw [if_pos (by omega), hba, hx]
        · rw [if_neg (by omega)]; exact c4 b (by omega)
      cases hl : ld S (endS S w) a with
      | none =>
        rw [hl] at hsn
        have hsn' : run S (0, 0) (w ++ [a]) = none := hsn
        rw [if_pos (show enO none = -1 from rfl)]
        exact go none (by unfold gT; rw [hsn']; rfl)
      | some t =>
        have ht := (ld_lt hS.1 hl).1
        rw [hl] at hsn
        have hsn' : run S (0, 0) (w ++ [a]) = some (t, 0) := hsn
        rw [if_neg (enO_nn (by omega)), show enO (some t) = nI t from rfl]
        refine s_likeA hP4 hq hb hsn' ht (go _ ?_)
        unfold gT
        rw [hsn']
        rfl
def setP (σ : SG) (P : Option PU) : SG := (σ.1, σ.2.1, σ.2.2.1, P, σ.2.2.2.2)
theorem AbsS.pup {I I' : MI} {J J' : MJ} {σ : SG} {P : Option PU} (h : AbsS I J σ) (e : ∀ i, (i < 37 ∨ 51 < i) → i < 177 → I' i = I i) (ej : ∀ i, (i < 37 ∨ 51 < i) → i < 177 → J' i = J i) (hp : PuS I' J' P) : AbsS I' J' (setP σ P) := by
  obtain ⟨h1, h2, h3, h4, h5⟩ := h
  refine ⟨fun p hp => ⟨(h1 p hp).1.kp ?_ (fun i a b => e i (by omega) (by omega)) (ej _ (by omega) (by omega)), (h1 p hp).2.kp ?_⟩, by rw [e 0 (by omega) (by omega)]; exact h2, hp, h4.kp (fun i a b => e i (by omega) (by omega)) (ej _ (by omega) (by omega)), h5.kp ⟨by rw [e 2 (by omega) (by omega)], e 4 (by omega) (by omega), e 5 (by omega) (by omega)⟩⟩
  · rw [e _ (by omega) (by omega)]; exact ⟨rfl, rfl, rfl⟩
  · rw [e _ (by omega) (by omega)]; exact ⟨rfl, rfl⟩
noncomputable section
def opLearn (x : Int32) (σ : SG) : Int32 × SG := match plc x with
  | none => ref 2 σ
  | some p => match σ.1 p with
    | none => ref 1 σ
    | some (.inl _) => ref 4 σ
    | some (.inr t) => if t.1 = 2 then ref 4 σ else don (nI (clo t.2.1 [[]] [[]]).length) (setP σ (some (t.2.1, t.2.2.1, clo t.2.1 [[]] [[]], [[]], 0)))
end
theorem VQ_0 {S : AM} (hS : VL S) : VQ S [[]] [[]] := by
  refine ⟨hS, rfl, rfl, fun w hw => ?_, fun v hv => ?_, fun i w hw => ?_, fun i j u w hu hw _ => ?_⟩
  · simp at hw; subst hw; exact ⟨wOk_nil, rfl⟩
  · simp at hv; subst hv; exact wOk_nil
  · have := List.mem_of_getElem? hw
    simp at this
    rw [this]
    exact Nat.zero_le _
  · have h1 := (List.getElem?_eq_some_iff.mp hu).1
    have h2 := (List.getElem?_eq_some_iff.mp hw).1
    simp at h1 h2
    omega
/-- from lists to a pupil -/
theorem PuS_of {S : AM} {l : Nat} {ah bh : List (List Nat)} {t : Int64} {I : MI} {J : MJ} (hP : PaS I J S ah bh) (hq : VQ S ah bh) (hc : ∀ i a, ¬ badA S ah bh i a) (hl : l ≤ 30) (hb : bh.length ≤ ah.length) (e0 : I 37 0 = 1) (e1 : I 37 1 = nI l) (e4 : I 37 4 = nI bh.length) (e5 : J 37 5 = t) (hg : RepC I 43 (mkG S ah bh)) : PuS I J (some (S, l, ah, bh, t)) := ⟨e0, e1, hP.2.1, hP.2.2.1, e4, e5, hP.1, hg, hP.2.2.2.1, hP.2.2.2.2, VP_of hq hl hb hc⟩
theorem S_learn {x : Int32} {I : MI} {J : MJ} {σ : SG} {Q : Int32 → MI → MJ → Prop} (h : AbsS I J σ) (q : KS I J (opLearn x σ) Q) : f_School_learn x I J Q := by
  unfold f_School_learn f_School_learn_b36 f_School_learn_b38
  rw [S_thing h]
  unfold opLearn at q
  rcases plc_cases x with ⟨p, hp, rfl, ep⟩ | ⟨hb, ep⟩
  · rw [ep] at q
    simp only at q
    have hPl := (h.1 p hp).1
    cases ht : σ.1 p with
    | none =>
      rw [ht] at q
      rw [fT_n hp ht, if_neg (by decide), if_neg (by decide)]
      exact KS.ref q h
    | some z =>
      rw [ht] at q hPl
      rw [fT_s hp ht, if_pos rfl, vpN (by omega), nI_clamp (by omega)]
      refine ⟨hp, ?_⟩
      cases z with
      | inl A =>
        simp only at q
        rw [hasM_l hPl.1 hPl.2.2.1, if_neg (by decide), if_neg (by decide)]
        exact KS.ref q h
      | inr t =>
        simp only at q
        obtain ⟨g1, g2, g3, g4, g5, g6⟩ := hPl
        have hk := g3.1
        rw [hasM_r g1 (by omega) (by omega), if_pos rfl, g1]
        refine ⟨hp, ?_⟩
        by_cases h2 : t.1 = 2
        · rw [if_pos h2] at q
          rw [if_pos (by rw [h2]; rfl), if_neg (by decide)]
          exact KS.ref q h
        · rw [if_neg h2] at q
          rw [if_neg (by rw [l6, eqNN (by omega) (by decide)]; omega), if_pos rfl, g4]
          refine ⟨hp, hp, ?_⟩
          unfold f_Pupil_beginAnew
          intro I1 e1
          have hS := g3.2.1
          refine c_become (by omega) (g2.kp (fun i a b => by rw [e1, sI_n _ _ (by omega)])) hS.1 (fun I2 b1 b2 b3 I3 e3 => ⟨vp0 (by decide), fun J1 j1 => ⟨vp0 (by decide), fun I4 e4 I5 e5 I6 e6 I7 e7 J2 j2 => ?_⟩⟩)
          rw [show (0 : Int32).toNatClampNeg = 0 from rfl] at j1 e4
          have f7 : ∀ c, c ≠ 37 → c ≠ 50 → (c < 38 ∨ 42 < c) → I7 c = I c := fun c u v w => by rw [e7, sI_n _ _ u, e6, sI_n _ _ u, e5, sI_n _ _ u, e4, sI_n _ _ v, e3, sI_n _ _ u, b1 c (by omega), e1, sI_n _ _ u]
          have r7 : RepC I7 38 t.2.1 := b3.kp (fun c u v => by rw [e7, sI_n _ _ (by omega), e6, sI_n _ _ (by omega), e5, sI_n _ _ (by omega), e4, sI_n _ _ (by omega), e3, sI_n _ _ (by omega)])
          have c0 : I7 37 0 = 1 := by rw [e7, sI_s, pk_un (by decide), e6, sI_s, pk_un (by decide), e5, sI_s, pk_un (by decide), e4, sI_n _ _ (by decide), e3, sI_s, pk_un (by decide), b1 37 (by omega), e1, sI_s, pk_us]
          have c1 : I7 37 1 = nI t.2.2.1 := by rw [e7, sI_s, pk_un (by decide), e6, sI_s, pk_un (by decide), e5, sI_s, pk_un (by decide), e4, sI_n _ _ (by decide), e3, sI_s, pk_us]
          have c2 : I7 37 2 = nI 1 := by rw [e7, sI_s, pk_un (by decide), e6, sI_s, pk_un (by decide), e5, sI_s, pk_us]; rfl
          have c3 : I7 37 3 = nI 0 := by rw [e7, sI_s, pk_un (by decide), e6, sI_s, pk_us]; rfl
          have c4 : I7 37 4 = nI 0 := by rw [e7, sI_s, pk_us]; rfl
          have c5 : J2 37 5 = 0 := by rw [j2, sJ_at, if_pos rfl, updL_at, if_pos rfl]
          have jf : ∀ c, c ≠ 37 → c ≠ 48 → J2 c = J c := fun c u v => by rw [j2, sJ_at, if_neg u, j1, sJ_at, if_neg v]
          have pa0 : PaS I7 J2 t.2.1 [[]] [] := by
            refine ⟨r7, c2, c3, fun i w hw => ?_, fun j v hv => by simp at hv⟩
            have hi := (List.getElem?_eq_some_iff.mp hw).1
            simp at hi
            subst hi
            have hw' : [] = w := by simpa using hw
            subst hw'
            refine ⟨by rw [j2, sJ_at, if_neg (by decide), j1, sJ_at, if_pos rfl, updL_at, if_pos rfl]; rfl, ?_⟩
            rw [e7, sI_n _ _ (by decide), e6, sI_n _ _ (by decide), e5, sI_n _ _ (by decide), e4, sI_s, upd_at, if_pos rfl]
            rfl
          refine s_addB (v := []) pa0 hS.1 (by decide) wOk_nil (fun I8 J8 k1 k2 k3 pa8 => ?_)
          refine s_close pa8 (VQ_0 hS) (by decide) (fun ah I9 J9 hcl hq hnb pa9 fr9 => ?_)
          refine s_guess pa9 hq (by decide) (fun I10 m1 m2 m3 rg => ?_)
          have hah : clo t.2.1 [[]] [[]] = ah := clo_eq hcl
          rw [hah] at q
          have h1l : 1 ≤ ah.length := by have := (List.getElem?_eq_some_iff.mp hq.2.1).1; omega
          have hlen := hq.len
          have h14 := hS.1.2.2.2.2.1
          have e37 : ∀ k, k ≠ 2 → k ≠ 3 → k ≠ 4 → I10 37 k = I7 37 k := fun k u v w => by rw [m2 k w, fr9.2.1 k u, k2 k v]
          have j37 : J9 37 5 = 0 := by rw [fr9.2.2 37 (by decide), k3 37 (by decide)]; exact c5
          have d4 : I10 37 4 = nI 1 := by rw [m3, fr9.2.1 4 (by decide), k2 4 (by decide), c4]; rfl
          have pu : PuS I10 J9 (some (t.2.1, t.2.2.1, ah, [[]], 0)) := PuS_of (pa9.kp (fun i hi => m1 i (by omega) (by omega)) ⟨m2 2 (by decide), m2 3 (by decide)⟩ ⟨rfl, rfl⟩) hq hnb g3.2.2.1 h1l (by rw [e37 0 (by decide) (by decide) (by decide)]; exact c0) (by rw [e37 1 (by decide) (by decide) (by decide)]; exact c1) d4 j37 rg
          have hg1 : I10 43 1 = nI ah.length := by rw [rg.2.1]; show nI (gSt t.2.1 ah [[]]).length = _; rw [gSt_len]
          show f_School_done (I10 43 1) I10 J9 (fun r84 I84 J84 => Q r84 I84 J84)
          rw [hg1]
          have fI : ∀ c, (c < 37 ∨ 51 < c) → I10 c = I c := fun c hc => by rw [m1 c (by omega) (by omega), fr9.1 c (by omega) (by omega), k1 c (by omega) (by omega), f7 c (by omega) (by omega) (by omega)]
          have fJ : ∀ c, (c < 37 ∨ 51 < c) → J9 c = J c := fun c hc => by rw [fr9.2.2 c (by omega), k3 c (by omega), jf c (by omega) (by omega)]
          exact q.don ⟨fun i hi => fI i (by omega), fun i hi => fJ i (by omega)⟩ (h.pup (fun i hi _ => fI i hi) (fun i hi _ => fJ i hi) pu)
  · rw [ep] at q
    rw [fT_b hb, if_neg (by decide), if_neg (by decide)]
    exact KS.ref q h
