/-! learning a word, the reference -/
theorem m_value {P : PU} {w : List Nat} {i : Nat} {I : MI} {J : MJ} {Q : Int32 → MI → MJ → Prop} (hp : PuM I J (some P)) (hw : wOk w) (hi : i ≤ w.length) (q : ∀ I', Sc I I' → Q (nI (vV P.1 (mkG P.1 P.2.2.1 P.2.2.2.1) P.2.2.1 w i)) I' J) : f_Model_valueOf (lN (num w)) (nI i) I J Q := by
  obtain ⟨p1, p2, p3, p4, p5, p6, p7, p8, p9, p10, p11⟩ := hp
  have hg := p11.g
  have h14 := p11.2.2.2.2.1
  unfold f_Model_valueOf
  refine m_begin (fun I1 e1 a1 => ?_)
  rw [show (17 : Int32) = nI 17 from rfl]
  have hd : (w.take i).drop 0 = w.take i := by simp
  unfold vV at q
  refine m_goAll (i0 := 0) (by decide) (e1.rep p8) hg.1.1 hg.1.1.n1 (show (0, 0).2 < 4 by decide) hw (Nat.zero_le _) hi a1 (fun hn I2 e2 => ?_) (fun z hz I2 e2 a2 => ?_)
  · rw [hd] at hn
    rw [if_pos rfl]
    rw [hn] at q
    exact q I2 (e1.tr e2)
  · rw [hd] at hz
    rw [if_neg (by decide)]
    rw [hz] at q
    have z1 := (run_ok hg.1.1 _ (0, 0) z hg.1.1.n1 (by decide) hz).1
    rw [hg.2] at z1
    have hu := List.getElem?_eq_getElem z1
    generalize P.2.2.1[z.1] = u at hu
    simp only [List.getD, hu, Option.getD_some] at q
    have huo := (p11.2.2.2.2.2.2.1 u (List.mem_of_getElem? hu)).1
    rw [a2.1, vpN (by omega), nI_clamp (by omega), p9 z.1 u hu]
    refine ⟨by omega, m_taught (ax := []) (x := -1) ((e1.tr e2).rep p7) p11.1.1 huo hw hi (Or.inl ⟨by decide, rfl⟩) (fun I3 e3 => ?_)⟩
    have := q I3 ((e1.tr e2).tr e3)
    rw [List.append_nil]
    exact this
theorem PuM.sc {I I' : MI} {J : MJ} {P : Option PU} (h : PuM I J P) (e : Sc I I') : PuM I' J P := by
  match P, h with
  | none, h => exact (e.2 49 (by decide) (by decide)).trans h
  | some P, h =>
    obtain ⟨p1, p2, p3, p4, p5, p6, p7, p8, p9, p10, p11⟩ := h
    exact ⟨by rw [e.2 49 (by decide) (by decide)]; exact p1, by rw [e.2 50 (by decide) (by decide)]; exact p2, by rw [e.2 53 (by decide) (by decide)]; exact p3, by rw [e.2 54 (by decide) (by decide)]; exact p4, by rw [e.2 56 (by decide) (by decide)]; exact p5, p6, e.rep p7, e.rep p8, p9, p10, p11⟩
theorem m_rest {w : List Nat} {h0 : Nat} {I : MI} {J : MJ} {kk : Int64 → MI → MJ → Prop} (hw : wOk w) (hh : h0 ≤ w.length) (q : kk (lN (num (w.drop h0))) I J) : ∃ n, f_Model_learnt_L70 (lN (num w)) (nI w.length) kk n 1 (nI h0) I J := by
  have h30 := hw.1
  have key : ∃ n, f_Model_learnt_L70 (lN (num w)) (nI w.length) kk n (lN (num ((w.take h0).drop h0))) (nI h0) I J := by
    refine lp1 (fun n (j : Nat) => f_Model_learnt_L70 (lN (num w)) (nI w.length) kk n (lN (num ((w.take j).drop h0))) (nI j) I J) (fun j => h0 ≤ j ∧ j ≤ w.length) (fun j => w.length - j) ?_ h0 ⟨Nat.le_refl _, hh⟩
    rintro n j ⟨b1, b2⟩ ih
    unfold f_Model_learnt_L70
    by_cases ej : j = w.length
    · rw [if_pos (by rw [ej, leNN (by omega) (by omega)]; exact Nat.le_refl _), ej, List.take_length]
      exact q
    · have hg : w[j]? = some (w[j]'(by omega)) := List.getElem?_eq_getElem (by omega)
      have ha := hw.2 _ (List.mem_of_getElem? hg)
      have e : (w.take j).drop h0 ++ [w[j]'(by omega)] = (w.take (j + 1)).drop h0 := by
        rw [take_s (by omega), List.drop_append_of_le_length (by rw [List.length_take]; omega)]
      rw [if_neg (by rw [leNN (by omega) (by omega)]; omega), m_sign hw hg, nI_l (by omega), show (4 : Int64) = lN 4 from rfl, lN_mul, lN_add, ← num_app, nI_1, forall_eq, forall_eq, e]
      exact ih (j + 1) ⟨by omega, by omega⟩ (by omega)
  have e : (w.take h0).drop h0 = [] := by simp
  rw [e] at key
  exact key
theorem m_learnW {P : PU} {w : List Nat} {I0 I : MI} {J0 J : MJ} {σ : SG} {Q : Int32 → MI → MJ → Prop} (h : AbsM I J σ) (hP : σ.2.2.2.1 = some P) (hf : FrM I0 I J0 J) (hw : wOk w) (hne : ansF P.1 (0, 0) w ≠ ansF (mkG P.1 P.2.2.1 P.2.2.2.1) (0, 0) w) (q : KM I0 J0 (don (nI (lrn P w).2.2.1.length) (setP σ (some (lrn P w)))) Q) : f_Model_learnt (lN (num w)) I J Q := by
  have hp := h.2.2.1
  rw [hP] at hp
  obtain ⟨p1, p2, p3, p4, p5, p6, p7, p8, p9, p10, p11⟩ := id hp
  have hS := p11.1
  have h30 := hw.1
  have h14 := p11.2.2.2.2.1
  obtain ⟨lq, lb, lx⟩ := lrn_ok p11 hw hne
  have hcut := (cut_bad p11 hw hne).2
  unfold f_Model_learnt
  refine m_len hw (m_value (i := 0) hp hw (Nat.zero_le _) (fun I1 e1 => ?_))
  have hV8 : ∀ i, vV P.1 (mkG P.1 P.2.2.1 P.2.2.2.1) P.2.2.1 w i ≤ 8 := fun i => by
    unfold vV
    cases run (mkG P.1 P.2.2.1 P.2.2.2.1) (0, 0) (w.take i) with
    | none => exact Nat.le_refl _
    | some z => exact ansF_8' hS.1 _
  refine lp3 (fun n (lo hi : Nat) (I2 : MI) => f_Model_learnt_L19 (lN (num w)) (nI (vV P.1 (mkG P.1 P.2.2.1 P.2.2.2.1) P.2.2.1 w 0)) _ n (nI lo) (nI hi) I2 J) (fun lo hi I2 => Sc I I2 ∧ lo ≤ hi ∧ hi ≤ w.length ∧ ∃ f, hi - lo ≤ f ∧ cutW P w = bsr (vV P.1 (mkG P.1 P.2.2.1 P.2.2.2.1) P.2.2.1 w) (vV P.1 (mkG P.1 P.2.2.1 P.2.2.2.1) P.2.2.1 w 0) f lo hi) (fun lo hi _ => hi - lo) ?_ 0 w.length I1 ⟨e1, Nat.zero_le _, Nat.le_refl _, 30, by omega, rfl⟩
  rintro n lo hi I2 ⟨b0, b1, b2, f, b3, b4⟩ ih
  have hp2 := hp.sc b0
  unfold f_Model_learnt_L19
  rw [nI_1 lo]
  by_cases ehl : hi ≤ lo + 1
  · rw [if_pos (by rw [leNN (by omega) (by omega)]; exact ehl)]
    rw [bsr_e ehl] at b4
    refine m_rest hw b2 ?_
    rw [hp2.2.2.2.1, vpN (by omega), nI_clamp (by omega), nI_1]
    refine ⟨by omega, fun J3 j3 I3 e3 J4 j4 => ?_⟩
    have hbe : P.2.2.2.1 ++ [w.drop hi] = bhW P w := by unfold bhW; rw [b4]
    have hbl : (bhW P w).length = P.2.2.2.1.length + 1 := by unfold bhW; rw [List.length_append]; rfl
    have f3 : ∀ c, c ≠ 177 → I3 c = I c := fun c u => by rw [e3, sI_n _ _ u, b0.1 c u]
    have f177 : ∀ k, k ≠ 14 → k ≠ 15 → k ≠ 54 → I3 177 k = I 177 k := fun k a b c => by rw [e3, sI_s, pk_un c, b0.2 k a b]
    have jf : ∀ c, c ≠ 177 → c ≠ 216 → J4 c = J c := fun c u v => by rw [j4, sJ_at, if_neg u, j3, sJ_at, if_neg v]
    have pa : PaM I3 J4 P.1 P.2.2.1 (bhW P w) := by
      refine ⟨?_, by rw [f177 53 (by decide) (by decide) (by decide)]; exact p3, by rw [e3, sI_s, pk_us, hbl], ?_, fun j v hv => ?_⟩
      · unfold RepM RowM at *
        rw [f3 184 (by decide), f3 185 (by decide), f3 186 (by decide), f3 187 (by decide), f3 188 (by decide), f3 189 (by decide), f3 190 (by decide)]
        exact p7
      · rw [jf 215 (by decide) (by decide)]; exact p9
      · rw [← hbe] at hv
        rw [j4, sJ_at, if_neg (by decide), j3, sJ_at, if_pos rfl, updL_at]
        rcases app_get hv with ⟨u1, u2⟩ | ⟨u1, u2⟩
        · rw [if_neg (by omega)]; exact p10 j v u2
        · rw [if_pos u1, u2]
    unfold f_Model_guessed
    refine m_close pa lq (by omega) (fun ah I7 J7 hcl hq hnb pa7 fr7 => ?_)
    refine m_guess pa7 hq (by omega) (fun I8 gu8 e56 rg => ?_)
    have hah := clo_eq hcl
    have k177 : ∀ k, k ≠ 14 → k ≠ 15 → k ≠ 53 → k ≠ 56 → I8 177 k = I3 177 k := fun k a b c d => by rw [gu8.2.1 k a b d, fr7.2.1 k a b c]
    unfold lrn at q
    rw [hah] at q
    have pu : PuM I8 J7 (some (P.1, P.2.1, ah, bhW P w, lN (num w))) := PuM_of (pa7.gu hS.1 gu8) hq hnb p11.2.1 (lx ah hcl) (by rw [k177 49 (by decide) (by decide) (by decide) (by decide), f177 49 (by decide) (by decide) (by decide)]; exact p1) (by rw [k177 50 (by decide) (by decide) (by decide) (by decide), f177 50 (by decide) (by decide) (by decide)]; exact p2) (by rw [e56, fr7.2.1 56 (by decide) (by decide) (by decide), f177 56 (by decide) (by decide) (by decide), p5, nI_1, hbl]) (by rw [fr7.2.2 177 (by decide), j4, sJ_at, if_pos rfl, updL_at, if_pos rfl]) rg
    have fI : ∀ c, (c < 177 ∨ (177 < c ∧ c < 184) ∨ 190 < c) → I8 c = I c := fun c hc => by rw [gu8.1 c (by omega) (by omega), fr7.1 c (by omega), f3 c (by omega)]
    have fJ : ∀ c, c ≠ 177 → c ≠ 215 → c ≠ 216 → J7 c = J c := fun c u v z => by rw [fr7.2.2 c v, jf c u z]
    refine KM.don q (hf.tr ⟨fun i hi => fI i (by omega), fun i hi => fJ i (by omega) (by omega) (by omega)⟩) (h.pup ⟨by rw [k177 13 (by decide) (by decide) (by decide) (by decide), f177 13 (by decide) (by decide) (by decide)], by rw [k177 59 (by decide) (by decide) (by decide) (by decide), f177 59 (by decide) (by decide) (by decide)]⟩ (fun i hi => fI i (by omega)) (fun q hq' => ?_) ⟨fJ 180 (by decide) (by decide) (by decide), fJ 217 (by decide) (by decide) (by decide)⟩ pu)
    exact (MEq.of (fun i a b => by rw [fr7.1 i (by omega), f3 i (by omega)])).tr (gu8.2.2 q (by omega) (by omega))
  · rw [if_neg (by rw [leNN (by omega) (by omega)]; exact ehl), nI_add, l2, pk_div (by omega) (by decide) (by decide), forall_eq]
    refine m_value hp2 hw (by omega) (fun I3 e3 => ?_)
    have hA := hV8 ((lo + hi) / 2)
    have hB := hV8 0
    obtain ⟨g, rfl⟩ : ∃ g, f = g + 1 := ⟨f - 1, by omega⟩
    unfold f_Model_learnt_b60
    by_cases ev : vV P.1 (mkG P.1 P.2.2.1 P.2.2.2.1) P.2.2.1 w ((lo + hi) / 2) = vV P.1 (mkG P.1 P.2.2.1 P.2.2.2.1) P.2.2.1 w 0
    · rw [if_pos (by rw [ev])]
      rw [bsr_p ehl ev] at b4
      exact ih ((lo + hi) / 2) hi I3 ⟨b0.tr e3, by omega, b2, g, by omega, b4⟩ (by omega)
    · rw [if_neg (by rw [eqNN (by omega) (by omega)]; exact ev)]
      rw [bsr_n ehl ev] at b4
      exact ih lo ((lo + hi) / 2) I3 ⟨b0.tr e3, by omega, by omega, g, by omega, b4⟩ (by omega)
theorem M_tell {y : Int64} {I : MI} {J : MJ} {σ : SG} {Q : Int32 → MI → MJ → Prop} (h : AbsM I J σ) (q : KM I J (opTell y σ) Q) : f_Model_tell y I J Q := by
  unfold f_Model_tell
  unfold opTell at q
  have hp := h.2.2.1
  cases hP : σ.2.2.2.1 with
  | none =>
    rw [hP] at hp q
    rw [if_pos (show I 177 49 = 0 from hp)]
    exact KM.ref q h
  | some P =>
    rw [hP] at hp q
    simp only at q
    rw [if_neg (by rw [hp.1]; decide)]
    rcases wd_cases y with ⟨w, hw, rfl, e⟩ | ⟨hn, e⟩
    · rw [e] at q
      simp only at q
      refine m_isW hw ?_
      obtain ⟨p1, p2, p3, p4, p5, p6, p7, p8, p9, p10, p11⟩ := id hp
      have k1 := ansF_8' p11.1.1 w
      have k2 := ansF_8' p11.g.1.1 w
      rw [if_neg (by decide), l16, show (17 : Int32) = nI 17 from rfl]
      refine m_ansBy (by decide) p7 p11.1.1 hw (fun I1 e1 => m_ansBy (by decide) (e1.rep p8) p11.g.1.1 hw (fun I2 e2 => ?_))
      have hsc := e1.tr e2
      by_cases ea : ansF P.1 (0, 0) w = ansF (mkG P.1 P.2.2.1 P.2.2.2.1) (0, 0) w
      · rw [if_pos ea] at q
        rw [if_pos (by rw [ea])]
        exact KM.ref' q (FrM.sc hsc) (h.sc hsc)
      · rw [if_neg ea] at q
        rw [if_neg (by rw [eqNN (by omega) (by omega)]; exact ea)]
        exact m_learnW (h.sc hsc) hP (FrM.sc hsc) hw ea q
    · rw [e] at q
      refine m_isWB hn ?_
      rw [if_pos rfl]
      exact KM.ref q h
