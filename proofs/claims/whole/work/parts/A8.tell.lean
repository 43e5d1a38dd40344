/-! learning a word, the class -/
theorem s_value {P : PU} {w : List Nat} {i : Nat} {I : MI} {J : MJ} {Q : Int32 → MI → MJ → Prop} (hp : PuS I J (some P)) (hw : wOk w) (hi : i ≤ w.length) (q : Q (nI (vV P.1 (mkG P.1 P.2.2.1 P.2.2.2.1) P.2.2.1 w i)) I J) : f_Pupil_valueAt (lN (num w)) (nI w.length) (nI i) I J Q := by
  obtain ⟨p1, p2, p3, p4, p5, p6, p7, p8, p9, p10, p11⟩ := hp
  have hg := p11.g
  have h30 := hw.1
  have h14 := p11.2.2.2.2.1
  unfold f_Pupil_valueAt
  rw [pk_sub hi, shr_num hw (by omega), num_div hw.2 _ (by omega), show w.length - (w.length - i) = i by omega]
  refine s_runO (x := some (0, 0)) p8 hg.1.1 (okSp_0 hg.1.1) (wOk_take hw i) ?_
  simp only [Option.bind_some]
  unfold vV at q
  cases hr : run (mkG P.1 P.2.2.1 P.2.2.2.1) (0, 0) (w.take i) with
  | none =>
    rw [hr] at q
    rw [if_pos (show enP none = -1 from rfl)]
    exact q
  | some z =>
    obtain ⟨z1, z2⟩ := run_ok hg.1.1 _ (0, 0) z hg.1.1.n1 (by decide) hr
    rw [hr] at q
    rw [hg.2] at z1
    have hu := List.getElem?_eq_getElem z1
    generalize P.2.2.1[z.1] = u at hu
    simp only [List.getD, hu, Option.getD_some] at q
    have hur := (p11.2.2.2.2.2.2.1 u (List.mem_of_getElem? hu)).2
    have he := end_run p11.1 hur
    rw [show enP (some z) = nI (z.1 * 4 + z.2) from rfl, if_neg (lm1 (by omega)), l4, pk_div (by omega) (by decide) (by decide), (dm4 z2).1, vpN (by omega), nI_clamp (by omega), s_last hw (by omega), show w.length - (w.length - i) = i by omega, (p9 z.1 u hu).2]
    refine ⟨by omega, s_heard p7 p11.1.1 he.2 (wOk_drop hw i) ?_⟩
    rw [ans_app he.1] at q
    exact q
theorem ClE_clo {S : AM} {bh ah x : List (List Nat)} (h : ClE S bh ah x) : ClE S bh ah (clo S bh ah) := by rw [clo_eq h]; exact h
theorem s_learnW {P : PU} {w : List Nat} {I : MI} {J : MJ} {Q : MI → MJ → Prop} (hp : PuS I J (some P)) (hw : wOk w) (hne : ansF P.1 (0, 0) w ≠ ansF (mkG P.1 P.2.2.1 P.2.2.2.1) (0, 0) w) (q : ∀ I' J', (∀ i, (i < 37 ∨ 51 < i) → I' i = I i) → (∀ i, (i < 37 ∨ 51 < i) → J' i = J i) → PuS I' J' (some (lrn P w)) → Q I' J') : f_Pupil_learnWord (lN (num w)) I J Q := by
  obtain ⟨p1, p2, p3, p4, p5, p6, p7, p8, p9, p10, p11⟩ := id hp
  have hS := p11.1
  have h30 := hw.1
  have h14 := p11.2.2.2.2.1
  obtain ⟨lq, lb, lx⟩ := lrn_ok p11 hw hne
  have hcut := (cut_bad p11 hw hne).2
  unfold f_Pupil_learnWord
  refine s_len hw (s_value (i := 0) hp hw (Nat.zero_le _) ?_)
  have hV8 : ∀ i, vV P.1 (mkG P.1 P.2.2.1 P.2.2.2.1) P.2.2.1 w i ≤ 8 := fun i => by
    unfold vV
    cases run (mkG P.1 P.2.2.1 P.2.2.2.1) (0, 0) (w.take i) with
    | none => exact Nat.le_refl _
    | some z => exact ansF_8' hS.1 _
  refine lp3 (fun n (lo hi t : Nat) => f_Pupil_learnWord_L23 (lN (num w)) (nI w.length) (nI (vV P.1 (mkG P.1 P.2.2.1 P.2.2.2.1) P.2.2.1 w 0)) _ n (nI lo) (nI hi) (nI t) I J) (fun lo hi t => lo ≤ hi ∧ hi ≤ w.length ∧ t + (hi - lo) ≤ 30 ∧ cutW P w = bsr (vV P.1 (mkG P.1 P.2.2.1 P.2.2.2.1) P.2.2.1 w) (vV P.1 (mkG P.1 P.2.2.1 P.2.2.2.1) P.2.2.1 w 0) (30 - t) lo hi) (fun lo hi _ => hi - lo) ?_ 0 w.length 0 ⟨Nat.zero_le _, Nat.le_refl _, by omega, rfl⟩
  rintro n lo hi t ⟨b1, b2, b3, b4⟩ ih
  unfold f_Pupil_learnWord_L23
  -- the search is over
  have fin : cutW P w = hi → f_Pupil_learnWord_b78 (lN (num w)) (nI w.length) (nI hi) Q I J := fun e => by
    unfold f_Pupil_learnWord_b78
    have pa : PaS I J P.1 P.2.2.1 P.2.2.2.1 := ⟨p7, p3, p4, p9, p10⟩
    rw [pk_sub b2, s_last hw (by omega), show w.length - (w.length - hi) = hi by omega]
    refine s_addB pa hS.1 lb (wOk_drop hw hi) (fun I1 J1 k1 k2 k3 pa1 => ?_)
    have hbe : P.2.2.2.1 ++ [w.drop hi] = bhW P w := by unfold bhW; rw [e]
    rw [hbe] at pa1
    have hbl : (bhW P w).length = P.2.2.2.1.length + 1 := by unfold bhW; rw [List.length_append]; rfl
    refine s_close pa1 lq (by omega) (fun ah I2 J2 hcl hq hnb pa2 fr2 => ?_)
    refine s_guess pa2 hq (by omega) (fun I3 m1 m2 m3 rg J3 j3 => ?_)
    have hah := clo_eq hcl
    have jf : ∀ c, c ≠ 37 → J3 c = J2 c := fun c u => by rw [j3, sJ_at, if_neg u]
    have e37 : ∀ k, k ≠ 2 → k ≠ 3 → k ≠ 4 → I3 37 k = I 37 k := fun k a b c => by rw [m2 k c, fr2.2.1 k a, k2 k b]
    refine q I3 J3 (fun c hc => by rw [m1 c (by omega) (by omega), fr2.1 c (by omega) (by omega), k1 c (by omega) (by omega)]) (fun c hc => by rw [jf c (by omega), fr2.2.2 c (by omega), k3 c (by omega)]) ?_
    unfold lrn
    rw [hah]
    exact PuS_of (pa2.kp (fun i hi => m1 i (by omega) (by omega)) ⟨m2 2 (by decide), m2 3 (by decide)⟩ ⟨jf 48 (by decide), jf 49 (by decide)⟩) hq hnb p11.2.1 (lx ah hcl) (by rw [e37 0 (by decide) (by decide) (by decide)]; exact p1) (by rw [e37 1 (by decide) (by decide) (by decide)]; exact p2) (by rw [m3, fr2.2.1 4 (by decide), k2 4 (by decide), p5, nI_1, hbl]) (by rw [j3, sJ_at, if_pos rfl, updL_at, if_pos rfl]) rg
  by_cases e30 : t = 30
  · rw [if_pos (by rw [e30]; decide)]
    exact fin (by rw [b4, bsr_e (by omega)])
  · rw [if_neg (by rw [l30, leNN (by decide) (by omega)]; omega), nI_1 lo]
    by_cases ehl : hi ≤ lo + 1
    · rw [if_pos (by rw [leNN (by omega) (by omega)]; exact ehl)]
      exact fin (by rw [b4, bsr_e ehl])
    · rw [if_neg (by rw [leNN (by omega) (by omega)]; exact ehl), nI_add, l2, pk_div (by omega) (by decide) (by decide), forall_eq]
      refine s_value hp hw (by omega) ?_
      have hA := hV8 ((lo + hi) / 2)
      have hB := hV8 0
      have ht : 30 - t = (30 - (t + 1)) + 1 := by omega
      rw [ht] at b4
      unfold f_Pupil_learnWord_b72
      rw [nI_1 t]
      by_cases ev : vV P.1 (mkG P.1 P.2.2.1 P.2.2.2.1) P.2.2.1 w ((lo + hi) / 2) = vV P.1 (mkG P.1 P.2.2.1 P.2.2.2.1) P.2.2.1 w 0
      · rw [if_pos (by rw [ev])]
        rw [bsr_p ehl ev] at b4
        intro u eu
        rw [eu]
        exact ih ((lo + hi) / 2) hi (t + 1) ⟨by omega, b2, by omega, b4⟩ (by omega)
      · rw [if_neg (by rw [eqNN (by omega) (by omega)]; exact ev)]
        rw [bsr_n ehl ev] at b4
        intro u eu
        rw [eu]
        exact ih lo ((lo + hi) / 2) (t + 1) ⟨by omega, by omega, by omega, b4⟩ (by omega)
noncomputable section
def opTell (y : Int64) (σ : SG) : Int32 × SG := match σ.2.2.2.1 with
  | none => ref 1 σ
  | some P => match decW y with
    | none => ref 2 σ
    | some w => if ansF P.1 (0, 0) w = ansF (mkG P.1 P.2.2.1 P.2.2.2.1) (0, 0) w then ref 6 σ else don (nI (lrn P w).2.2.1.length) (setP σ (some (lrn P w)))
end
theorem PuS.g1 {I : MI} {J : MJ} {P : PU} (h : PuS I J (some P)) : I 43 1 = nI P.2.2.1.length := by
  obtain ⟨p1, p2, p3, p4, p5, p6, p7, p8, p9, p10, p11⟩ := h
  rw [p8.2.1, p11.g.2]
theorem S_tell {y : Int64} {I : MI} {J : MJ} {σ : SG} {Q : Int32 → MI → MJ → Prop} (h : AbsS I J σ) (q : KS I J (opTell y σ) Q) : f_School_tell y I J Q := by
  unfold f_School_tell f_School_tell_b15
  unfold opTell at q
  have hp := h.2.2.1
  cases hP : σ.2.2.2.1 with
  | none =>
    rw [hP] at hp q
    rw [if_pos hp.1, if_neg (by decide)]
    unfold f_School_tell_b29 f_School_tell_b61
    rw [if_neg (by decide), if_neg (by decide)]
    exact KS.ref q h
  | some P =>
    rw [hP] at hp q
    simp only at q
    rw [if_neg (by rw [hp.1]; decide), if_pos rfl]
    rcases wd_cases y with ⟨w, hw, rfl, e⟩ | ⟨hn, e⟩
    · rw [e] at q
      simp only at q
      refine s_isW hw ?_
      rw [if_neg (by decide)]
      unfold f_School_tell_b29 f_School_tell_b61
      rw [if_pos rfl]
      obtain ⟨p1, p2, p3, p4, p5, p6, p7, p8, p9, p10, p11⟩ := id hp
      have k1 := ansF_8' p11.1.1 w
      have k2 := ansF_8' p11.g.1.1 w
      refine s_ansTo p7 p11.1.1 hw (s_ansTo p8 p11.g.1.1 hw ?_)
      by_cases ea : ansF P.1 (0, 0) w = ansF (mkG P.1 P.2.2.1 P.2.2.2.1) (0, 0) w
      · rw [if_pos ea] at q
        rw [if_pos (by rw [ea]), if_neg (by decide)]
        exact KS.ref q h
      · rw [if_neg ea] at q
        rw [if_neg (by rw [eqNN (by omega) (by omega)]; exact ea), if_pos rfl]
        refine s_learnW hp hw ea (fun I1 J1 f1 f2 pu => ?_)
        rw [pu.g1]
        exact q.don ⟨fun i hi => f1 i (by omega), fun i hi => f2 i (by omega)⟩ (h.pup (fun i hi _ => f1 i hi) (fun i hi _ => f2 i hi) pu)
    · rw [e] at q
      refine s_isWB hn ?_
      rw [if_pos rfl]
      unfold f_School_tell_b29 f_School_tell_b61
      rw [if_neg (by decide), if_neg (by decide)]
      exact KS.ref q h
