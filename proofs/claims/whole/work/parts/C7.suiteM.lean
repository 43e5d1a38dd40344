/-! SUITE and PASSES, the reference -/
theorem ac_J {A : AM} {J : MJ} (hv : VA A) (hg : ¬ grt A) (h : ∀ (u r : Nat) (x : KW), (rpL (eqA A) (ndM A).length)[u]? = some r → (bfW (nxM A) A.2.1 0 14)[r]? = some x → J 197 (14 * 18 + u) = lN (num x.2)) : ∀ s, s < aN (leastA A) → J 197 (252 + s) = lN (num (ac (leastA A) s)) := by
  intro s hs
  have hn : aN (leastA A) = cr (eqN (toL (nxM A) (ndM A)) (anL (anM A) (ndM A)) A.2.1) (ndM A).length := qsG_len
  have hbl : (bfW (nxM A) A.2.1 0 14).length = (ndM A).length := bfW_l _ _ _ _
  have hs2 := hs
  rw [hn] at hs2
  have hr := List.getElem?_eq_getElem (show s < (rpL (eqN (toL (nxM A) (ndM A)) (anL (anM A) (ndM A)) A.2.1) (ndM A).length).length from hs2)
  have hrn := (rpL_get hr).1
  have hx := List.getElem?_eq_getElem (show (rpL (eqN (toL (nxM A) (ndM A)) (anL (anM A) (ndM A)) A.2.1) (ndM A).length)[s] < (bfW (nxM A) A.2.1 0 14).length by rw [hbl]; exact hrn)
  have hac := least_ac hv hg hr hx
  rw [← ac_eq (least_good hv hg) hs hac]
  exact h s _ _ hr hx
/-- the words of the SUITE, in order -/
def OrM (L : AM) (d c : Nat) (u : Nat → Nat) (I : MI) (J : MJ) : Prop := I 177 42 = nI c ∧ c ≤ 6000 ∧ RvA J u c ∧ Inc u c ∧ ∀ y, (∃ i, i < c ∧ u i = y) ↔ ∃ w, isSW L d w ∧ num w = y
theorem m_gath {d : Nat} {L : AM} {I : MI} {J : MJ} {Q : Int32 → MI → MJ → Prop} (hL : GoodL L) (hd : d ≤ 2) (r1 : RepM I 18 L) (hu : ∀ s, s < aN L → J 197 (252 + s) = lN (num (ac L s))) (q0 : (6 < aN L ∨ ¬ L.2.1 ≤ 3) → Q 0 I J) (q1 : ∀ c u I' J', aN L ≤ 6 → L.2.1 ≤ 3 → OrM L d c u I' J' → PfM I I' J J' → Q 1 I' J') : vp_in 18 20 ∧ (if 6 < (I 185 (18 : Int32).toNatClampNeg) then Q 0 I J else vp_in 18 20 ∧ (if (I 186 (18 : Int32).toNatClampNeg) ≤ 3 then f_Model_findParts (nI d) I J (fun I54 J54 => ∀ I59 : MI, I59 = sI I54 177 (upd (I54 177) 42 0) → ∃ n, f_Model_findSuite_L64 (fun (I : MI) (J : MJ) => f_Model_order I J (fun I160 J160 => Q 1 I160 J160)) n 0 I59 J54) else Q 0 I J)) := by
  have hv := hL.1.1
  have h14 := hv.2.2.2.2.1
  have hk4 := hv.2.2.1
  have e18 : (18 : Int32).toNatClampNeg = 18 := by decide
  have v18 : vp_in 18 20 := (vpN (n := 18) (by decide)).mpr (by decide)
  rw [e18, r1.2.1, r1.2.2.1]
  refine ⟨v18, ?_⟩
  by_cases n6 : 6 < aN L
  · rw [if_pos (by rw [l6, ltNN (by decide) (by omega)]; exact n6)]
    exact q0 (Or.inl n6)
  · rw [if_neg (by rw [l6, ltNN (by decide) (by omega)]; exact n6)]
    refine ⟨v18, ?_⟩
    by_cases k3 : L.2.1 ≤ 3
    · rw [if_pos (by rw [l3, leNN (by omega) (by decide)]; exact k3)]
      refine m_parts hL hd (by omega) k3 r1 hu (fun W I1 J1 P p1 => ?_)
      obtain ⟨a1, a2, a3, a4, a5, a6, a7, a8⟩ := P
      intro I2 e2
      have g2 : GfM 42 211 I1 I2 J1 J1 := ⟨fun i hi => by rw [e2, sI_n _ _ hi], fun k hk => by rw [e2, sI_s, pk_un hk], fun _ _ => rfl⟩
      have hfl : (fsL L (aN L)).length ≤ 24 := by
        rw [fsL_len]
        have : aN L * (1 + L.2.1) ≤ 6 * 4 := Nat.mul_le_mul (by omega) (by omega)
        omega
      have hPt : PtS (fsL L (aN L)) (mds d L.2.1) W I1 J1 := by
        refine ⟨hfl, (mds_len hd hv.2.1 k3).2.1, a2, a3, a4, a5, a6, a7, a8, fun m hm => ?_, fun l hl => ?_⟩
        · obtain ⟨k1, k2⟩ := (mds_mem hd hv.2.1).mp hm
          exact ⟨by omega, fun a ha => by have := k2 a ha; omega⟩
        · obtain ⟨k1, k2⟩ := isLa_ok hL (by omega) ((a1 l).mp hl)
          exact ⟨by omega, k2⟩
      refine m_su1 (hPt.kp g2) (by rw [e2, sI_s, pk_us]) (fun I3 J3 g3 hZ z1 z2 => ?_)
      have hmem := swL_mem (d := d) a1
      generalize swL (fsL L (aN L)) (mds d L.2.1) W = Z at hZ z1 z2 hmem
      have hok : ∀ w ∈ Z, wOk w := fun w hw => isSW_ok hL (by omega) hd ((hmem w).mp hw)
      refine m_order (N := Z.length) (v := fun i => num (Z.getD i [])) (by omega) z1 (fun i hi => ?_) (fun c u I4 J4 c1 c2 c3 c4 g4 c5 => ?_)
      · have hg := List.getElem?_eq_getElem hi
        generalize Z[i] = w at hg
        have e : Z.getD i [] = w := by rw [List.getD_eq_getElem?_getD, hg]; rfl
        show J3 211 i = lN (num (Z.getD i [])) ∧ num (Z.getD i []) < 2 ^ 61
        rw [e]
        exact ⟨z2 i w hg, num_60 (hok w (List.mem_of_getElem? hg))⟩
      · refine q1 c u I4 J4 (by omega) k3 ⟨c5, by omega, c2, c3, fun y => ?_⟩ (((p1.tr (g2.pf (by decide) (by decide))).tr (g3.pf (by decide) (by decide))).tr (g4.pf (by decide) (by decide)))
        rw [c4]
        constructor
        · rintro ⟨i, hi, e⟩
          have hg := List.getElem?_eq_getElem hi
          generalize Z[i] = w at hg
          have e' : Z.getD i [] = w := by rw [List.getD_eq_getElem?_getD, hg]; rfl
          have e2' : num (Z.getD i []) = y := e
          rw [e'] at e2'
          exact ⟨w, (hmem w).mp (List.mem_of_getElem? hg), e2'⟩
        · rintro ⟨w, hw, e⟩
          obtain ⟨i, hi⟩ := List.mem_iff_getElem?.mp ((hmem w).mpr hw)
          have e' : Z.getD i [] = w := by rw [List.getD_eq_getElem?_getD, hi]; rfl
          refine ⟨i, (List.getElem?_eq_some_iff.mp hi).1, ?_⟩
          show num (Z.getD i []) = y
          rw [e']
          exact e
    · rw [if_neg (by rw [l3, leNN (by omega) (by decide)]; exact k3)]
      exact q0 (Or.inr k3)
theorem m_gather {x y : Int32} {I : MI} {J : MJ} {σ : SG} {Q : Int32 → MI → MJ → Prop} (h : AbsM I J σ) (q0 : noSu σ x y → ∀ I' J', MSc I I' J J' → Q 0 I' J') (q1 : ∀ A L d c u p I' J', maC σ x = some A → x = nI p → p < 16 → RepM I p A → VA A → y = nI d → d ≤ 2 → ¬ grt A → L = leastA A → GoodL L → aN L ≤ 6 → L.2.1 ≤ 3 → OrM L d c u I' J' → MSc I I' J J' → Q 1 I' J') : f_Model_findSuite x y I J Q := by
  unfold f_Model_findSuite
  rw [M_isM h]
  rcases maC_cases σ x with ⟨p, A, hp, rfl, ht, e, e0⟩ | ⟨e, e0⟩
  · rw [if_pos e0, if_neg (by decide)]
    have hP := (h.1 p hp).1
    rw [ht] at hP
    obtain ⟨g1, g2, g3⟩ := hP
    rcases y_cases y with y0 | y2 | ⟨d, hd, rfl⟩
    · rw [if_pos y0]
      exact q0 (Or.inr (Or.inl y0)) I J MSc.rf
    · have y0 : ¬ y < 0 := fun hh => by
        rw [Int32.lt_iff_toInt_lt] at hh y2
        have e0 : (0 : Int32).toInt = 0 := by decide
        have e2 : (2 : Int32).toInt = 2 := by decide
        omega
      rw [if_neg y0, if_pos y2]
      exact q0 (Or.inr (Or.inr (Or.inl y2))) I J MSc.rf
    · rw [if_neg (nI0_lt (by omega)), if_neg (by rw [l2, ltNN (by decide) (by omega)]; omega), l18]
      refine m_least (by omega) (by decide) (by decide) g2 g3 (fun hg I1 J1 s1 _ => ?_) (fun hg I1 J1 s1 _ r1 hJ => ?_)
      · rw [if_pos rfl]
        exact q0 (Or.inr (Or.inr (Or.inr ⟨A, e, Or.inl hg⟩))) I1 J1 s1
      · rw [if_neg (by decide)]
        have hL := least_good g3 hg
        have hu := ac_J g3 hg hJ
        have q0' := fun hh => q0 (Or.inr (Or.inr (Or.inr ⟨A, e, Or.inr hh⟩))) I1 J1 s1
        have q1' := q1 A
        clear hJ
        generalize hLe : leastA A = L at hL r1 hu q0'
        refine m_gath hL hd r1 hu q0' (fun c u I2 J2 n6 k3 O p2 => ?_)
        exact q1' L d c u p I2 J2 e rfl hp g2 g3 rfl hd hg hLe.symm hL n6 k3 O (s1.tr p2.ms)
  · rw [if_neg e0, if_pos rfl]
    exact q0 (Or.inl e) I J MSc.rf
theorem OrM.cnt {L : AM} {d c : Nat} {u : Nat → Nat} {I : MI} {J : MJ} (hL : GoodL L) (hn : aN L ≤ 6) (hd : d ≤ 2) (h : OrM L d c u I J) : cntP (isSW L d) = c := by
  obtain ⟨h1, h2, h3, h4, h5⟩ := h
  have : ∀ i : Nat, ∃ w : List Nat, i < c → isSW L d w ∧ num w = u i := fun i => by
    by_cases hi : i < c
    · obtain ⟨w, w1, w2⟩ := (h5 (u i)).mp ⟨i, hi, rfl⟩
      exact ⟨w, fun _ => ⟨w1, w2⟩⟩
    · exact ⟨[], fun hh => absurd hh hi⟩
  obtain ⟨g, hg⟩ := Classical.axiomOfChoice this
  have hnd : ((List.range c).map g).Nodup := by
    refine List.pairwise_iff_getElem.mpr (fun i j hi hj hij => ?_)
    rw [List.length_map, List.length_range] at hi hj
    rw [List.getElem_map, List.getElem_map, List.getElem_range, List.getElem_range]
    intro e
    have k1 := (hg i hi).2
    have k2 := (hg j hj).2
    have := h4 i j hij hj
    rw [e] at k1
    omega
  rw [cntP_eq hnd (fun w => ?_), List.length_map, List.length_range]
  rw [List.mem_map]
  constructor
  · rintro ⟨i, hi, rfl⟩
    exact (hg i (List.mem_range.mp hi)).1
  · intro hw
    obtain ⟨i, hi, e⟩ := (h5 (num w)).mpr ⟨w, hw, rfl⟩
    obtain ⟨k1, k2⟩ := hg i hi
    exact ⟨i, List.mem_range.mpr hi, num_inj (isSW_ok hL hn hd k1).2 (isSW_ok hL hn hd hw).2 (by rw [k2, e])⟩
theorem M_suite {x y : Int32} {I : MI} {J : MJ} {σ : SG} {Q : Int32 → MI → MJ → Prop} (h : AbsM I J σ) (q : KMg I J (opSuite x y σ, σ) Q) : f_Model_suite x y I J Q := by
  unfold f_Model_suite
  refine m_gather h (fun hno I1 J1 s1 => ?_) (fun A L d c u p I1 J1 e ex hp g2 hv ed hd hg eL hL hn hk O s1 => ?_)
  · rw [if_pos rfl]
    rw [suite_none hno] at q
    exact q I1 J1 s1.2.2.2.2 (s1.abs h)
  · subst ed
    rw [if_neg (by decide), O.1]
    rw [suite_some e hd hg eL hn hk, O.cnt hL hn hd] at q
    exact q I1 J1 s1.2.2.2.2 (s1.abs h)
theorem m_pl {p r d c : Nat} {A B L : AM} {u : Nat → Nat} {I : MI} {J : MJ} {k60 : Int32 → MI → MJ → Prop} {k74 : MI → MJ → Prop} (hp : p < 16) (hr : r < 16) (hA : RepM I p A) (hB : RepM I r B) (hv : VA A) (hw : VA B) (hL : GoodL L) (hn : aN L ≤ 6) (hd : d ≤ 2) (hans : ∀ w, ansF L (0, 0) w = ansF A (0, 0) w) (O : OrM L d c u I J) (q0 : ∀ I', Sc I I' → oL (leastN (WdP (swP L B d))) = 0 → k74 I' J) (q1 : ∀ i I', Sc I I' → i < c → oL (leastN (WdP (swP L B d))) = J 211 i → k60 (nI i) I' J) : ∃ n, f_Model_passes_L24 (nI p) (nI r) k60 k74 n 0 I J := by
  obtain ⟨h1, h2, h3, h4, h5⟩ := O
  refine lp2 (fun n (i : Nat) (I1 : MI) => f_Model_passes_L24 (nI p) (nI r) k60 k74 n (nI i) I1 J) (fun i I1 => i ≤ c ∧ Sc I I1 ∧ ∀ w j, j < i → isSW L d w → num w = u j → ansF A (0, 0) w = ansF B (0, 0) w) (fun i _ => c - i) ?_ 0 I ⟨Nat.zero_le _, Sc.rf, fun w j hj => absurd hj (Nat.not_lt_zero _)⟩
  rintro n i I1 ⟨b1, b2, b3⟩ ih
  unfold f_Model_passes_L24
  rw [b2.2 42 (by decide) (by decide), h1]
  by_cases ei : i = c
  · rw [if_pos (by rw [ei]; exact Int32.le_refl _)]
    refine q0 I1 b2 ?_
    rw [leastN_n (fun m hm => ?_)]
    · rfl
    · obtain ⟨w, w1, w2, w3, w4⟩ := hm
      obtain ⟨j, hj, ej⟩ := (h5 (num w)).mpr ⟨w, w3, rfl⟩
      refine w4 ?_
      rw [hans]
      exact b3 w j (by omega) w3 ej.symm
  · obtain ⟨w, w1, w2⟩ := (h5 (u i)).mp ⟨i, by omega, rfl⟩
    have hok := isSW_ok hL hn hd w1
    have eJ : J 211 i = lN (num w) := by rw [w2]; exact (h3 i (by omega)).1
    have k1 := ansF_8' hv w
    have k2 := ansF_8' hw w
    rw [if_neg (by rw [leNN (by omega) (by omega)]; omega), vpN (by omega), nI_clamp (by omega), eJ]
    refine ⟨by omega, m_ansBy (by omega) (b2.rep hA) hv hok (fun I2 s2 => ?_)⟩
    rw [eJ]
    refine ⟨by omega, m_ansBy (by omega) ((b2.tr s2).rep hB) hw hok (fun I3 s3 => ?_)⟩
    by_cases e : ansF A (0, 0) w = ansF B (0, 0) w
    · rw [if_pos (by rw [e])]
      intro t et
      rw [et, nI_1 i]
      refine ih (i + 1) I3 ⟨by omega, (b2.tr s2).tr s3, fun v j hj hv' ev => ?_⟩ (by omega)
      by_cases c1 : j = i
      · subst c1
        have : v = w := num_inj (isSW_ok hL hn hd hv').2 hok.2 (by rw [ev, w2])
        rw [this]
        exact e
      · exact b3 v j (by omega) hv' ev
    · rw [if_neg (by rw [eqNN (by omega) (by omega)]; exact e)]
      refine q1 i I3 ((b2.tr s2).tr s3) (by omega) ?_
      rw [leastN_s (n := num w) ⟨w, hok.2, rfl, w1, by rw [hans]; exact e⟩ (fun m hm hP => ?_)]
      · exact eJ.symm
      · obtain ⟨v, v1, v2, v3, v4⟩ := hP
        obtain ⟨j, hj, ej⟩ := (h5 (num v)).mpr ⟨v, v3, rfl⟩
        have hji : j < i := by
          rcases Nat.lt_trichotomy j i with c1 | c1 | c1
          · exact c1
          · subst c1; omega
          · have := h4 i j c1 hj; omega
        refine v4 ?_
        rw [hans]
        exact b3 v j hji v3 ej.symm
theorem M_passes {x z y : Int32} {I : MI} {J : MJ} {σ : SG} {Q : Int64 → MI → MJ → Prop} (h : AbsM I J σ) (q : KMg I J (opPasses x z y σ, σ) Q) : f_Model_passes x z y I J Q := by
  unfold f_Model_passes
  refine m_gather h (fun hno I1 J1 s1 => ?_) (fun A L d c u p I1 J1 e ex hp g2 hv ed hd hg eL hL hn hk O s1 => ?_)
  · rw [if_pos rfl]
    rw [passes_none hno] at q
    exact q I1 J1 s1.2.2.2.2 (s1.abs h)
  · subst ed
    subst ex
    have h1 := s1.abs h
    rw [if_neg (by decide), M_isM h1]
    rcases maC_cases σ z with ⟨r, B, hr, rfl, ht, f, f0⟩ | ⟨f, f0⟩
    · rw [if_pos f0, if_neg (by decide)]
      have hP := (h1.1 r hr).1
      rw [ht] at hP
      obtain ⟨k1, k2, k3⟩ := hP
      have hPA := (h1.1 p hp).1
      rw [passes_some f e hd hg eL hn hk] at q
      have hans : ∀ w, ansF L (0, 0) w = ansF A (0, 0) w := fun w => by rw [eL]; exact leastA_ans hv hg w
      have scM : ∀ I', Sc I1 I' → MSc I1 I' J1 J1 := fun I' s => by
        refine ⟨fun k hk => s.2 k ?_ ?_, fun i hi => s.1 i (by omega), fun q _ => MEq.of (fun i a b => s.1 i (by omega)), ⟨rfl, rfl, rfl, rfl, rfl⟩, ⟨fun i hi => s.1 i (by omega), fun _ _ => rfl⟩⟩
        all_goals (intro ek; subst ek; revert hk; decide)
      refine m_pl hp hr (g2.kp hv (s1.2.2.1 p (by omega))) k2 hv k3 hL hn hd hans O (fun I2 s2 e0 => ?_) (fun i I2 s2 hi ei => ?_)
      · rw [e0] at q
        have s12 := s1.tr (scM I2 s2)
        exact q I2 J1 s12.2.2.2.2 (s12.abs h)
      · rw [ei] at q
        have s12 := s1.tr (scM I2 s2)
        have hc := O.2.1
        rw [vpN (by omega), nI_clamp (by omega)]
        exact ⟨by omega, q I2 J1 s12.2.2.2.2 (s12.abs h)⟩
    · rw [if_neg f0, if_pos rfl]
      unfold opPasses at q
      rw [f] at q
      exact q I1 J1 s1.2.2.2.2 h1
