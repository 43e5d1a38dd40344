theorem M_place {x : Int32} {y : Int64} {I : MI} {J : MJ} {σ : SG} {Q : Int64 → MI → MJ → Prop} (h : AbsM I J σ) (q : KMg I J (opPlace x y σ, σ) Q) : f_Model_place x y I J Q := by
  unfold f_Model_place
  rw [M_isM h]
  unfold opPlace at q
  rcases maC_cases σ x with ⟨p, A, hp, rfl, ht, e, e0⟩ | ⟨e, e0⟩
  · rw [e] at q
    rw [if_pos e0, if_neg (by decide)]
    simp only at q
    have hP := (h.1 p hp).1
    rw [ht] at hP
    obtain ⟨g1, g2, g3⟩ := hP
    have hn14 := g3.2.2.2.2.1
    rcases wd_cases y with ⟨w, hw, rfl, ew⟩ | ⟨hn, ew⟩
    · rw [ew] at q
      simp only at q
      refine m_isW hw ?_
      rw [if_neg (by decide)]
      have a8 := ansF_8' g3 w
      have h30 := hw.1
      refine m_ansBy (by omega) g2 g3 hw (fun I1 s1 => ?_)
      by_cases h8 : ansF A (0, 0) w = 8
      · rw [if_pos (show nI (ansF A (0, 0) w) = 8 by rw [h8]; rfl)]
        rw [if_pos h8] at q
        exact q I1 J (FrM.sc s1) (h.sc s1)
      · rw [if_neg (show ¬ nI (ansF A (0, 0) w) = 8 by rw [l8, eqNN (by omega) (by decide)]; exact h8)]
        rw [if_neg h8] at q
        refine m_ansBy (by omega) (s1.rep g2) g3 hw (fun I2 s2 => ?_)
        generalize ansF A (0, 0) w = v at *
        refine m_tails (by omega) ((s1.tr s2).rep g2) g3 a8 (fun I3 J3 s3 ej e3 => m_len hw ?_)
        have f0 : ∀ m, m ≤ 30 → J3 200 (56 * m) = lN (tl A v m (some (0, 0))) := fun m hm => by
          have := e3 m hm 0 0 g3.n1 (by decide)
          rw [show 56 * m + 4 * 0 + 0 = 56 * m by omega] at this
          exact this
        have s13 := (s1.tr s2).tr s3
        refine lp2 (fun n (z : Nat) (k : Nat) => f_Model_place_L53 (nI w.length) _ n (lN z) (nI k) I3 J3) (fun z k => k ≤ w.length ∧ z = sm (fun i => tl A v i (some (0, 0))) k) (fun _ k => w.length - k) ?_ 0 0 ⟨Nat.zero_le _, rfl⟩
        rintro n2 z k ⟨b1, b4⟩ ih
        unfold f_Model_place_L53
        by_cases ek : k = w.length
        · rw [if_pos (show nI w.length ≤ nI k by rw [ek, leNN (by omega) (by omega)]; omega)]
          subst ek
          rw [← b4] at q
          refine lp3 (fun n (z' : Nat) (i : Nat) (I4 : MI) => f_Model_place_L84 (nI p) (lN (num w)) (nI w.length) _ n (lN z') (nI i) I4 J3) (fun z' i I4 => i ≤ w.length ∧ Sc I I4 ∧ z + rk A v w (some (0, 0)) = z' + rk A v (w.drop i) (run A (0, 0) (w.take i))) (fun _ i _ => w.length - i) ?_ z 0 I3 ⟨Nat.zero_le _, s13, rfl⟩
          rintro n3 z' i I4 ⟨c1, c2, c3⟩ ih2
          unfold f_Model_place_L84
          by_cases ei : i = w.length
          · rw [if_pos (show nI w.length ≤ nI i by rw [ei, leNN (by omega) (by omega)]; omega)]
            rw [ei, List.drop_length] at c3
            rw [c3] at q
            exact q I4 J3 (FrM.s200 c2 ej) (h.s200 c2 ej)
          · have hi : i < w.length := by omega
            rw [if_neg (show ¬ nI w.length ≤ nI i by rw [leNN (by omega) (by omega)]; omega)]
            have hg : w[i]? = some w[i] := List.getElem?_eq_getElem hi
            have hb4 : w[i] < 4 := hw.2 _ (List.getElem_mem _)
            have hd := List.drop_eq_getElem_cons hi
            have hl : (w.drop (i + 1)).length = w.length - 1 - i := by rw [List.length_drop]; omega
            have hrun : run A (0, 0) (w.take (i + 1)) = (run A (0, 0) (w.take i)).bind (fun q => dl A q w[i]) := by
              rw [take_s hi, run_app]
              congr 1
              funext q
              rw [run_cons]
              cases dl A q w[i] <;> rfl
            rw [hd] at c3
            simp only [rk] at c3
            rw [hl] at c3
            refine lp3 (fun n (z2 : Nat) (a : Nat) (I5 : MI) => f_Model_place_L94 (nI p) (lN (num w)) (nI w.length) (nI i) _ n (lN z2) (nI a) I5 J3) (fun z2 a I5 => a ≤ w[i] ∧ Sc I I5 ∧ z2 = z' + sm (fun a => tl A v (w.length - 1 - i) ((run A (0, 0) (w.take i)).bind (fun q => dl A q a))) a) (fun _ a _ => 4 - a) ?_ z' 0 I4 ⟨Nat.zero_le _, c2, rfl⟩
            rintro n4 z2 a I5 ⟨d1, d2, d3⟩ ih3
            unfold f_Model_place_L94
            rw [m_sign hw hg]
            by_cases ea : a = w[i]
            · rw [if_pos (show nI w[i] ≤ nI a by rw [ea, leNN (by omega) (by omega)]; omega), nI_1, forall_eq]
              refine ih2 z2 (i + 1) I5 ⟨by omega, d2, ?_⟩ (by omega)
              rw [c3, d3, ea, hrun]
              omega
            · rw [if_neg (show ¬ nI w[i] ≤ nI a by rw [leNN (by omega) (by omega)]; omega)]
              have step : ∀ (y : Nat) (I6 : MI), Sc I I6 → y = tl A v (w.length - 1 - i) ((run A (0, 0) (w.take i)).bind (fun q => dl A q a)) → f_Model_place_b170 (nI a) (lN z2) (lN y) (f_Model_place_L94 (nI p) (lN (num w)) (nI w.length) (nI i) (fun (z179_x5 : Int64) (I : MI) (J : MJ) => ∀ t179 : Int32, t179 = nI i + 1 → f_Model_place_L84 (nI p) (lN (num w)) (nI w.length) (fun (z185_x5 : Int64) (I : MI) (J : MJ) => Q z185_x5 I J) n3 z179_x5 t179 I J) n4) I6 J3 := by
                intro y I6 e6 hy
                unfold f_Model_place_b170
                rw [forall_eq, lN_add, nI_1 a, forall_eq]
                exact ih3 _ (a + 1) I6 ⟨by omega, e6, by rw [d3, hy]; simp only [sm]; omega⟩ (by omega)
              refine m_begin (fun I6 s6 at6 => ?_)
              have ht0 : (w.take i).drop 0 = w.take i := by simp
              refine m_goAll (i0 := 0) (sc := (0, 0)) (by omega) ((d2.tr s6).rep g2) g3 g3.n1 (by decide) hw (Nat.zero_le _) (by omega) at6 (fun hr I7 s7 => ?_) (fun t hr I7 s7 at7 => ?_)
              · rw [ht0] at hr
                rw [if_pos rfl]
                unfold f_Model_place_b169
                exact step 0 I7 ((d2.tr s6).tr s7) (by rw [hr]; exact (tl_none _ _ _).symm)
              · rw [ht0] at hr
                obtain ⟨t1, t2⟩ := run_ok g3 _ (0, 0) t g3.n1 (by decide) hr
                rw [if_neg (by decide)]
                refine m_go (sc := t) (by omega) (((d2.tr s6).tr s7).rep g2) g3 t1 t2 (by omega) at7 (fun hdl => ?_) (fun u hdl I8 s8 at8 => ?_)
                · rw [if_pos rfl]
                  unfold f_Model_place_b169
                  exact step 0 I7 ((d2.tr s6).tr s7) (by rw [hr, Option.bind_some, hdl]; exact (tl_none _ _ _).symm)
                · obtain ⟨k1, k2, _⟩ := dl_ok g3 t2 hdl
                  rw [if_neg (by decide), at8.1, at8.2, l1, pk_sub (by omega), pk_sub (by omega), l56, l4, pk_mul, pk_mul, nI_add, nI_add, vpN (by omega), nI_clamp (by omega), e3 (w.length - 1 - i) (by omega) u.1 u.2 k1 k2]
                  exact ⟨by omega, step _ I8 (((d2.tr s6).tr s7).tr s8) (by rw [hr, Option.bind_some, hdl])⟩
        · rw [if_neg (show ¬ nI w.length ≤ nI k by rw [leNN (by omega) (by omega)]; omega), l56, pk_mul, vpN (by omega), nI_clamp (by omega), f0 k (by omega), lN_add, forall_eq, nI_1, forall_eq]
          exact ⟨by omega, ih _ (k + 1) ⟨by omega, by rw [b4]; rfl⟩ (by omega)⟩
    · rw [ew] at q
      exact m_isWB hn (by rw [if_pos rfl]; exact q I J FrM.rf h)
  · rw [e] at q
    rw [if_neg e0, if_pos rfl]
    exact q I J FrM.rf h
