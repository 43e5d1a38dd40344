theorem m_pairs {m : Nat} {A : AM} {I : MI} {J : MJ} {Q : Int32 → MI → MJ → Prop} (hm : m < 20) (hA : RepM I m A) (hv : VA A) (q0 : grt A → ∀ I' J', PrF I I' J J' → Q 0 I' J') (q1 : ¬ grt A → ∀ I' J', PrF I I' J J' → PrM I' J' (bfW (nxM A) A.2.1 0 14) → PrT I' (nxM A) (bfW (nxM A) A.2.1 0 14) 14 → Q 1 I' J') : f_Model_findPairs (nI m) I J Q := by
  have hK : A.2.1 ≤ 4 := hv.2.2.1
  have hn14 := hv.2.2.2.2.1
  have hWK := fun i => (bfW_K (nx := nxM A) (K := A.2.1) (m := 4) (k0 := 0) (fun x a ha => nxM_K hv x a ha) hK i)
  have hBK := fun i => show bfB (nxM A) 4 0 i = bfB (nxM A) A.2.1 0 i by rw [← bfW_k, hWK, bfW_k]
  have hP4 : ∀ i (x : KW), x ∈ bfW (nxM A) 4 0 i → x.1 < aN A * 4 := fun i x hx => by
    have : x.1 ∈ bfB (nxM A) 4 0 i := by rw [← bfW_k]; exact List.mem_map.mpr ⟨x, hx, rfl⟩
    exact bfB_inv (P := fun x => x < aN A * 4) (by have := hv.n1; omega) (fun x a k hx _ hk => nxM_P hv hx hk) i x.1 this
  unfold f_Model_findPairs
  have z0 : (0 : Int32).toNatClampNeg = 0 := rfl
  rw [z0]
  have v0 : vp_in 0 57 := (vpN (n := 0) (by decide)).mpr (by decide)
  refine ⟨v0, fun I1 e1 => ⟨v0, fun I2 e2 => ⟨v0, fun J1 e3 I3 e4 => ?_⟩⟩⟩
  have pf : PrF I I3 J J1 := ⟨fun i a b c d => by rw [e4, sI_n _ _ a, e2, sI_n _ _ c, e1, sI_n _ _ b], fun k a b c => by rw [e4, sI_s, pk_un c, e2, sI_n _ _ (by decide), e1, sI_n _ _ (by decide)], fun i a => by rw [e3, sJ_at, if_neg a]⟩
  have pm : PrM I3 J1 (bfW (nxM A) 4 0 0) := by
    refine ⟨by rw [e4, sI_s, pk_us]; rfl, fun i x hx => ?_⟩
    cases i with
    | zero =>
      have : x = (0, []) := by simp [bfW] at hx; exact hx.symm
      subst this
      refine ⟨by rw [e4, sI_n _ _ (by decide), e2, sI_n _ _ (by decide), e1, sI_s, pk_us]; rfl, by rw [e4, sI_n _ _ (by decide), e2, sI_s, pk_us]; rfl, by rw [e3, sJ_at, if_pos rfl, pk_uLs]; rfl⟩
    | succ i => simp [bfW] at hx
  refine lp3 (fun f (i : Nat) (I4 : MI) (J4 : MJ) => f_Model_findPairs_L28 (nI m) _ f (nI i) I4 J4) (fun i I4 J4 => i ≤ (bfB (nxM A) 4 0 i).length ∧ i ≤ 14 ∧ (bfB (nxM A) 4 0 i).length ≤ 18 ∧ PrF I I4 J J4 ∧ PrM I4 J4 (bfW (nxM A) 4 0 i) ∧ PrT I4 (nxM A) (bfW (nxM A) 4 0 i) i) (fun i _ _ => 15 - i) ?_ 0 I3 J1 ⟨Nat.zero_le _, by decide, by simp [bfB], pf, pm, fun i x hi => absurd hi (Nat.not_lt_zero _)⟩
  rintro f i I4 J4 ⟨b1, b0, b2, b3, b4, b5⟩ ih
  unfold f_Model_findPairs_L28
  have hl : (bfW (nxM A) 4 0 i).length = (bfB (nxM A) 4 0 i).length := bfW_l _ _ _ _
  rw [b4.1, hl]
  by_cases h14 : 14 < (bfB (nxM A) 4 0 i).length
  · have h14' : (14 : Int32) < nI (bfB (nxM A) 4 0 i).length := by rw [l14, ltNN (by decide) (by omega)]; exact h14
    have fin : f_Model_findPairs_b185 Q I4 J4 := by
      unfold f_Model_findPairs_b185
      rw [b4.1, hl, if_pos h14']
      refine q0 ?_ I4 J4 b3
      show 14 < (bfB (nxM A) A.2.1 0 14).length
      have := bfB_len (nxM A) A.2.1 0 b0
      rw [← hBK i] at this
      omega
    rw [if_pos h14', ite_self]
    exact fin
  · have h14' : ¬ (14 : Int32) < nI (bfB (nxM A) 4 0 i).length := by rw [l14, ltNN (by decide) (by omega)]; exact h14
    rw [if_neg h14']
    by_cases ei : i = (bfB (nxM A) 4 0 i).length
    · rw [if_pos (show nI (bfB (nxM A) 4 0 i).length ≤ nI i by rw [leNN (by omega) (by omega)]; omega)]
      have hcl := bfW_cl (nx := nxM A) (K := 4) (k0 := 0) (i := i) (by omega) 14 b0
      have hcB := bfB_cl (nx := nxM A) (K := 4) (k0 := 0) (i := i) (by omega) 14 b0
      rw [← hWK 14, hcl] at q1
      show f_Model_findPairs_b185 Q I4 J4
      unfold f_Model_findPairs_b185
      rw [b4.1, hl, if_neg h14']
      refine q1 (fun hg => ?_) I4 J4 b3 b4 (fun i' x hi' hx => b5 i' x ?_ hx)
      · have : 14 < (bfB (nxM A) A.2.1 0 14).length := hg
        rw [← hBK, hcB] at this
        omega
      · have := (List.getElem?_eq_some_iff.mp hx).1
        omega
    · rw [if_neg (show ¬ nI (bfB (nxM A) 4 0 i).length ≤ nI i by rw [leNN (by omega) (by omega)]; omega)]
      have hil : i < (bfW (nxM A) 4 0 i).length := by omega
      have hx := List.getElem?_eq_getElem hil
      generalize (bfW (nxM A) 4 0 i)[i] = x at hx
      have hx4 := hP4 i x (List.mem_of_getElem? hx)
      have hst := bfW_step hx
      have hnd : ∀ a, ((rowW (nxM A x.1) x.2 a (bfW (nxM A) 4 0 i)).map (fun x => x.1)).Nodup := fun a => by
        rw [rowW_k, bfW_k]
        exact rowL_nd a (bfB_nd _ _ _ _)
      have hlen : ∀ a, (rowW (nxM A x.1) x.2 a (bfW (nxM A) 4 0 i)).length ≤ 14 + a := fun a => by
        induction a with
        | zero => simp only [rowW]; omega
        | succ a ih =>
          unfold rowW
          cases nxM A x.1 a with
          | none => show (rowW (nxM A x.1) x.2 a (bfW (nxM A) 4 0 i)).length ≤ _; omega
          | some k =>
            show (pushW _ _ _).length ≤ _
            unfold pushW
            split
            · omega
            · simp; omega
      have hmem : ∀ a, a ≤ 4 → ∀ y ∈ rowW (nxM A x.1) x.2 a (bfW (nxM A) 4 0 i), y.1 < aN A * 4 := fun a ha y hy => by
        obtain ⟨E, hE⟩ := rowW_p (nxM A x.1) x.2 ha (bfW (nxM A) 4 0 i)
        refine hP4 (i + 1) y ?_
        rw [hst, hE]
        exact List.mem_append_left _ hy
      refine lp3 (fun f (a : Nat) (I5 : MI) (J5 : MJ) => f_Model_findPairs_L47 (nI m) (nI i) _ f (nI a) I5 J5) (fun a I5 J5 => a ≤ 4 ∧ PrF I I5 J J5 ∧ PrM I5 J5 (rowW (nxM A x.1) x.2 a (bfW (nxM A) 4 0 i)) ∧ (∀ j, (j < 4 * i ∨ 4 * i + a ≤ j) → I5 194 j = I4 194 j) ∧ ∀ b, b < a → (nxM A x.1 b = none → I5 194 (4 * i + b) = -1) ∧ ∀ k, nxM A x.1 b = some k → ∃ (j : Nat) (y : KW), (rowW (nxM A x.1) x.2 a (bfW (nxM A) 4 0 i))[j]? = some y ∧ y.1 = k ∧ I5 194 (4 * i + b) = nI j) (fun a _ _ => 5 - a) ?_ 0 I4 J4 ⟨by decide, b3, b4, fun _ _ => rfl, fun b hb => absurd hb (Nat.not_lt_zero _)⟩
      rintro f2 a I5 J5 ⟨c1, c2, c3, c4, c5⟩ ih2
      unfold f_Model_findPairs_L47
      by_cases ea : a = 4
      · rw [if_pos (show (4 : Int32) ≤ nI a by rw [ea]; decide), nI_1, forall_eq]
        subst ea
        obtain ⟨E, hE⟩ := bfW_mono (nxM A) 4 0 (show i ≤ i + 1 by omega)
        have hl18 := hlen 4
        rw [← hst] at c3 c5 hl18
        refine ih (i + 1) I5 J5 ⟨?_, by omega, by rw [← bfW_l]; omega, c2, c3, fun i' y hi' hy b hb => ?_⟩ (by omega)
        · have := bfB_len (nxM A) 4 0 (show i ≤ i + 1 by omega)
          omega
        · by_cases hii : i' = i
          · subst hii
            have hyx : y = x := by
              rw [hE, pre_get hx] at hy
              cases hy; rfl
            subst hyx
            exact c5 b hb
          · have hy' : (bfW (nxM A) 4 0 i)[i']? = some y := by
              rw [hE, List.getElem?_append_left (by omega)] at hy
              exact hy
            obtain ⟨t1, t2⟩ := b5 i' y (by omega) hy' b hb
            rw [c4 _ (by omega)]
            refine ⟨t1, fun k hk => ?_⟩
            obtain ⟨j, z, j1, j2, j3⟩ := t2 k hk
            exact ⟨j, z, by rw [hE]; exact pre_get j1, j2, j3⟩
      · obtain ⟨E0, hE0⟩ := rowW_p (nxM A x.1) x.2 (Nat.zero_le a) (bfW (nxM A) 4 0 i)
        have hx5 : (rowW (nxM A x.1) x.2 a (bfW (nxM A) 4 0 i))[i]? = some x := by rw [hE0]; exact pre_get hx
        obtain ⟨p1, p2, p3⟩ := c3.2 i x hx5
        have hll := hlen a
        rw [if_neg (show ¬ (4 : Int32) ≤ nI a by rw [l4, leNN (by decide) (by omega)]; omega), vpN (by omega), nI_clamp (by omega), p1, forall_eq]
        refine ⟨by omega, ⟨by omega, ?_⟩⟩
        rw [forall_eq]
        have p2' : (sI I5 177 (upd (I5 177) 14 (nI (x.1 / 4)))) 192 i = nI (x.1 % 4) := by rw [sI_n _ _ (by decide)]; exact p2
        rw [p2']
        have s6 : Sc I5 (sI (sI I5 177 (upd (I5 177) 14 (nI (x.1 / 4)))) 177 (upd ((sI I5 177 (upd (I5 177) 14 (nI (x.1 / 4)))) 177) 15 (nI (x.1 % 4)))) := (Sc.u14 _).tr (Sc.u15 _)
        have at6 : atC (sI (sI I5 177 (upd (I5 177) 14 (nI (x.1 / 4)))) 177 (upd ((sI I5 177 (upd (I5 177) 14 (nI (x.1 / 4)))) 177) 15 (nI (x.1 % 4)))) (x.1 / 4, x.1 % 4) := ⟨by rw [sI_s, pk_un (by decide), sI_s, pk_us], by rw [sI_s, pk_us]⟩
        generalize (sI (sI I5 177 (upd (I5 177) 14 (nI (x.1 / 4)))) 177 (upd ((sI I5 177 (upd (I5 177) 14 (nI (x.1 / 4)))) 177) 15 (nI (x.1 % 4)))) = I6 at s6 at6
        obtain ⟨E1, hE1⟩ := rowW_p (nxM A x.1) x.2 (show a ≤ a + 1 by omega) (bfW (nxM A) 4 0 i)
        -- the row is written, and the next sign comes
        have wr : ∀ (y : Int32) (I7 : MI) (J7 : MJ), PrF I I7 J J7 → PrM I7 J7 (rowW (nxM A x.1) x.2 (a + 1) (bfW (nxM A) 4 0 i)) → I7 194 = I5 194 → (nxM A x.1 a = none → y = -1) → (∀ k, nxM A x.1 a = some k → ∃ (j : Nat) (z : KW), (rowW (nxM A x.1) x.2 (a + 1) (bfW (nxM A) 4 0 i))[j]? = some z ∧ z.1 = k ∧ y = nI j) → f_Model_findPairs_b161 (nI i) (nI a) y (f_Model_findPairs_L47 (nI m) (nI i) (fun (I : MI) (J : MJ) => ∀ t179 : Int32, t179 = nI i + 1 → f_Model_findPairs_L28 (nI m) (fun (I : MI) (J : MJ) => f_Model_findPairs_b185 Q I J) f t179 I J) f2) I7 J7 := by
          intro y I7 J7 g1 g2 g3 g4 g5
          unfold f_Model_findPairs_b161
          rw [l4, pk_mul, nI_add, vpN (by omega), nI_clamp (by omega)]
          refine ⟨by omega, fun I8 e8 t et => ?_⟩
          rw [et, nI_1 a]
          have m7 : ∀ j, I8 194 j = if j = 4 * i + a then y else I5 194 j := fun j => by rw [e8, sI_s, upd_at, g3]
          refine ih2 (a + 1) I8 J7 ⟨by omega, g1.tr ⟨fun j a b c d => by rw [e8, sI_n _ _ d], fun k _ _ _ => by rw [e8, sI_n _ _ (by decide)], fun _ _ => rfl⟩, ?_, fun j hj => by rw [m7, if_neg (by omega)]; exact c4 j (by omega), fun b hb => ⟨fun hn => ?_, fun k hk => ?_⟩⟩ (by omega)
          · unfold PrM at *
            rw [e8, sI_n _ _ (by decide), sI_n _ _ (by decide), sI_n _ _ (by decide)]
            exact g2
          · rw [m7]
            by_cases hba : b = a
            · rw [if_pos (by omega)]; subst hba; exact g4 hn
            · rw [if_neg (by omega)]; exact (c5 b (by omega)).1 hn
          · rw [m7]
            by_cases hba : b = a
            · rw [if_pos (by omega)]; subst hba; exact g5 k hk
            · rw [if_neg (by omega)]
              obtain ⟨j, z, j1, j2, j3⟩ := (c5 b (by omega)).2 k hk
              exact ⟨j, z, by rw [hE1]; exact pre_get j1, j2, j3⟩
        have pmS : ∀ {I7 : MI} {L : List KW}, Sc I5 I7 → PrM I5 J5 L → PrM I7 J5 L := fun h hp => by
          unfold PrM at *
          rw [h.2 16 (by decide) (by decide), h.1 191 (by decide), h.1 192 (by decide)]
          exact hp
        refine m_go (sc := (x.1 / 4, x.1 % 4)) hm ((c2.tr (PrF.sc s6)).rep hA) hv (by show x.1 / 4 < _; omega) (by show x.1 % 4 < _; omega) (by omega) at6 (fun hd => ?_) (fun t hd I7 s7 at7 => ?_)
        · have hn : nxM A x.1 a = none := by unfold nxM; rw [hd]; rfl
          have hr : rowW (nxM A x.1) x.2 (a + 1) (bfW (nxM A) 4 0 i) = rowW (nxM A x.1) x.2 a (bfW (nxM A) 4 0 i) := by
            conv => lhs; unfold rowW
            rw [hn]
          rw [if_pos rfl]
          exact wr (-1) I6 J5 (c2.tr (PrF.sc s6)) (by rw [hr]; exact pmS s6 c3) (s6.1 194 (by decide)) (fun _ => rfl) (fun k hk => by rw [hn] at hk; cases hk)
        · have hn : nxM A x.1 a = some (t.1 * 4 + t.2) := by unfold nxM; rw [hd]; rfl
          obtain ⟨t1, t2, _⟩ := dl_ok hv (show (x.1 / 4, x.1 % 4).2 < 4 from Nat.mod_lt _ (by decide)) hd
          have hr : rowW (nxM A x.1) x.2 (a + 1) (bfW (nxM A) 4 0 i) = pushW (rowW (nxM A x.1) x.2 a (bfW (nxM A) 4 0 i)) (t.1 * 4 + t.2) (x.2 ++ [a]) := by
            conv => lhs; unfold rowW
            rw [hn]
          have s57 := s6.tr s7
          have e1 : nI t.1 = nI ((t.1 * 4 + t.2) / 4) := by rw [(dm4 t2).1]
          have e2 : nI t.2 = nI ((t.1 * 4 + t.2) % 4) := by rw [(dm4 t2).2]
          rw [if_neg (by decide), at7.1, at7.2]
          rw [e1, e2]
          refine m_findPair (L := rowW (nxM A x.1) x.2 a (bfW (nxM A) 4 0 i)) (pmS s57 c3) (by omega) (fun y hy => by have := hmem a c1 y hy; omega) (by omega) (hnd a) (fun j y hj hy => ?_) (fun hno => ?_)
          · have hr2 : rowW (nxM A x.1) x.2 (a + 1) (bfW (nxM A) 4 0 i) = rowW (nxM A x.1) x.2 a (bfW (nxM A) 4 0 i) := by
              rw [hr]; unfold pushW; rw [if_pos (List.mem_map.mpr ⟨y, List.mem_of_getElem? hj, hy⟩)]
            have hjl := (List.getElem?_eq_some_iff.mp hj).1
            rw [if_pos (nI0_le (by omega))]
            exact wr (nI j) I7 J5 (c2.tr (PrF.sc s57)) (by rw [hr2]; exact pmS s57 c3) (s57.1 194 (by decide)) (fun hh => by rw [hn] at hh; cases hh) (fun k hk => by rw [hn] at hk; cases hk; exact ⟨j, y, by rw [hr2]; exact hj, hy, rfl⟩)
          · have hr2 : rowW (nxM A x.1) x.2 (a + 1) (bfW (nxM A) 4 0 i) = rowW (nxM A x.1) x.2 a (bfW (nxM A) 4 0 i) ++ [(t.1 * 4 + t.2, x.2 ++ [a])] := by
              rw [hr]; unfold pushW; rw [if_neg hno]
            have c7 := pmS s57 c3
            rw [if_neg (by decide), forall_eq, c7.1, vpN (by omega), nI_clamp (by omega), at7.1]
            refine ⟨by omega, fun I8 e8 => ⟨by omega, fun I9 e9 => ⟨by omega, by omega, fun J9 ej I10 e10 => ?_⟩⟩⟩
            have k15 : I8 177 15 = nI t.2 := by rw [e8, sI_n _ _ (by decide)]; exact at7.2
            have k16 : I9 177 16 = nI (rowW (nxM A x.1) x.2 a (bfW (nxM A) 4 0 i)).length := by rw [e9, sI_n _ _ (by decide), e8, sI_n _ _ (by decide)]; exact c7.1
            rw [k15] at e9
            rw [k16, nI_1] at e10
            rw [p3, nI_l (by omega), show (4 : Int64) = lN 4 from rfl, lN_mul, lN_add, ← num_app] at ej
            refine wr _ I10 J9 ((c2.tr (PrF.sc s57)).tr ⟨fun j a b c d => by rw [e10, sI_n _ _ a, e9, sI_n _ _ c, e8, sI_n _ _ b], fun k a b c => by rw [e10, sI_s, pk_un c, e9, sI_n _ _ (by decide), e8, sI_n _ _ (by decide)], fun j hj => by rw [ej, sJ_at, if_neg hj]⟩) ⟨by rw [e10, sI_s, pk_us, hr2]; simp, fun i' y hy => ?_⟩ (by rw [e10, sI_n _ _ (by decide), e9, sI_n _ _ (by decide), e8, sI_n _ _ (by decide)]; exact s57.1 194 (by decide)) (fun hh => by rw [hn] at hh; cases hh) (fun k hk => by rw [hn] at hk; cases hk; exact ⟨_, (t.1 * 4 + t.2, x.2 ++ [a]), by rw [hr2]; simp, rfl, rfl⟩)
            rw [hr2] at hy
            have m1 : ∀ j, I10 191 j = if j = (rowW (nxM A x.1) x.2 a (bfW (nxM A) 4 0 i)).length then nI t.1 else I7 191 j := fun j => by rw [e10, sI_n _ _ (by decide), e9, sI_n _ _ (by decide), e8, sI_s, upd_at]
            have m2 : ∀ j, I10 192 j = if j = (rowW (nxM A x.1) x.2 a (bfW (nxM A) 4 0 i)).length then nI t.2 else I7 192 j := fun j => by rw [e10, sI_n _ _ (by decide), e9, sI_s, upd_at, e8, sI_n _ _ (by decide)]
            have m3 : ∀ j, J9 193 j = if j = (rowW (nxM A x.1) x.2 a (bfW (nxM A) 4 0 i)).length then lN (num (x.2 ++ [a])) else J5 193 j := fun j => by rw [ej, sJ_at, if_pos rfl, updL_at]
            rcases app_get hy with ⟨u1, u2⟩ | ⟨u1, u2⟩
            · rw [m1, m2, m3, if_neg (by omega), if_neg (by omega), if_neg (by omega)]
              exact c7.2 i' y u2
            · rw [m1, m2, m3, if_pos u1, if_pos u1, if_pos u1, u2]
              exact ⟨e1, e2, rfl⟩
