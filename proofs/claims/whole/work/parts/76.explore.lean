/-! exploring a walk -/
def Chk (I I' : MI) : Prop := (∀ i, i ≠ 2 → i ≠ 3 → i ≠ 4 → i ≠ 5 → i ≠ 7 → i ≠ 8 → I' i = I i) ∧ ∀ j, j ≠ 0 → j ≠ 1 → I' 2 j = I 2 j
theorem Chk.rf {I : MI} : Chk I I := ⟨fun _ _ _ _ _ _ _ => rfl, fun _ _ _ => rfl⟩
theorem Chk.tr {I I' I'' : MI} (h : Chk I I') (h' : Chk I' I'') : Chk I I'' := ⟨fun i a b c d e f => (h'.1 i a b c d e f).trans (h.1 i a b c d e f), fun j a b => (h'.2 j a b).trans (h.2 j a b)⟩
def TbP (I : MI) (nx : Nat → Nat → Option Nat) (an : Nat → Nat) (K : Nat) (L : List Nat) (n : Nat) : Prop := ∀ (i x : Nat), i < n → L[i]? = some x → I 8 i = nI (an x) ∧ ∀ a, a < K → (nx x a = none → I 7 (i * 4 + a) = -1) ∧ ∀ k, nx x a = some k → ∃ j : Nat, L[j]? = some k ∧ I 7 (i * 4 + a) = nI j
def TbS (I : MI) (nx : Nat → Nat → Option Nat) (an : Nat → Nat) (K : Nat) (L : List Nat) : Prop := I 2 1 = nI K ∧ ∀ (i x : Nat), L[i]? = some x → I 8 i = nI (an x) ∧ ∀ a, a < K → (nx x a = none → I 7 (i * 4 + a) = -1) ∧ ∀ k, nx x a = some k → ∃ j : Nat, L[j]? = some k ∧ I 7 (i * 4 + a) = nI j
theorem lm2 {n : Nat} (h : n < 2 ^ 31) : ¬ nI n = -2 := fun e => by
  have := congrArg Int32.toInt e
  rw [nI_toInt h] at this
  simp at this
  try omega
theorem ex_M {o most K k0 : Nat} {nx : Nat → Nat → Option Nat} {an : Nat → Nat} {P : Nat → Prop} {I : MI} {J : MJ} {Q : Int32 → MI → MJ → Prop} (hH : HaS I) (hK : K ≤ 4) (hm1 : 1 ≤ most) (hm : most ≤ 225) (hP0 : P k0) (hPs : ∀ x a k, P x → a < K → nx x a = some k → P k) (hP31 : ∀ x, P x → x < 2 ^ 31) (hfk : ∀ (I' : MI) (R : Int32 → MI → MJ → Prop), Chk I I' → R (nI k0) I' J → f_Machine_firstKey o I' J R) (hnx : ∀ (I' : MI) (R : Int32 → MI → MJ → Prop) (x a : Nat), Chk I I' → P x → a < K → R (enO (nx x a)) I' J → f_Machine_nextKey o (nI x) (nI a) I' J R) (han : ∀ (I' : MI) (R : Int32 → MI → MJ → Prop) (x : Nat), Chk I I' → P x → R (nI (an x)) I' J → f_Machine_answerAt o (nI x) I' J R) (q0 : most < (bfB nx K k0 most).length → ∀ I', Chk I I' → HaS I' → Q 0 I' J) (q1 : (bfB nx K k0 most).length ≤ most → ∀ I', Chk I I' → ChS I' (bfB nx K k0 most) → TbS I' nx an K (bfB nx K k0 most) → Q 1 I' J) : f_Chart_explore_M o (nI K) (nI most) I J Q := by
  unfold f_Chart_explore_M
  refine c_wipe hH (fun I1 h1 e1 e2 => ?_)
  rw [forall_eq]
  have c2 : Chk I (sI I1 2 (upd (I1 2) 1 (nI K))) := ⟨fun i a b c d f g => by rw [sI_n _ _ a, e1 i a d], fun j u v => by rw [sI_s, pk_un v, e2 j u]⟩
  have h2 : ChS (sI I1 2 (upd (I1 2) 1 (nI K))) [] := h1.kp ⟨by rw [sI_s, pk_un (by decide)], sI_n _ _ (by decide), sI_n _ _ (by decide), sI_n _ _ (by decide)⟩
  have k2 : (sI I1 2 (upd (I1 2) 1 (nI K))) 2 1 = nI K := by rw [sI_s, pk_us]
  generalize (sI I1 2 (upd (I1 2) 1 (nI K))) = I2 at c2 h2 k2
  refine hfk I2 _ c2 (c_node h2 (hP31 _ hP0) hm (fun i hi => by simp at hi) (fun _ hl => absurd hl (by simp; omega)) (fun _ _ I3 h3 e3 e4 => ?_))
  have c3 : Chk I I3 := c2.tr ⟨fun i a b c d f g => e3 i a b c d, fun j u v => e4 j u⟩
  have k3 : I3 2 1 = nI K := by rw [e4 1 (by decide)]; exact k2
  have hPl : ∀ i x, x ∈ bfB nx K k0 i → P x := bfB_inv hP0 hPs
  refine lp2 (fun n (i : Nat) (I4 : MI) => f_Chart_explore_M_L22 o (nI K) (nI most) _ _ n (nI i) I4 J) (fun i I4 => i ≤ (bfB nx K k0 i).length ∧ (bfB nx K k0 i).length ≤ most ∧ ChS I4 (bfB nx K k0 i) ∧ Chk I I4 ∧ I4 2 1 = nI K ∧ TbP I4 nx an K (bfB nx K k0 i) i) (fun i _ => 226 - i) ?_ 0 I3 ⟨Nat.zero_le _, by simpa [bfB] using hm1, h3, c3, k3, fun i' x hi' => absurd hi' (Nat.not_lt_zero _)⟩
  rintro n i I4 ⟨b1, b2, b3, b4, b5, b6⟩ ih
  unfold f_Chart_explore_M_L22
  rw [b3.1]
  by_cases ei : i = (bfB nx K k0 i).length
  · rw [if_pos (show nI (bfB nx K k0 i).length ≤ nI i by rw [leNN (by omega) (by omega)]; omega)]
    have hcl := bfB_cl (nx := nx) (K := K) (k0 := k0) (i := i) (by omega) most (by omega)
    rw [hcl] at q1
    refine q1 b2 I4 b4 b3 ⟨b5, fun i' x hx => b6 i' x ?_ hx⟩
    have := (List.getElem?_eq_some_iff.mp hx).1
    omega
  · have hil : i < (bfB nx K k0 i).length := by omega
    have hx := List.getElem?_eq_getElem hil
    generalize (bfB nx K k0 i)[i] = x at hx
    have hPx := hPl i x (List.mem_of_getElem? hx)
    rw [if_neg (show ¬ nI (bfB nx K k0 i).length ≤ nI i by rw [leNN (by omega) (by omega)]; omega), if_neg (show ¬ (225 : Int32) ≤ nI i by rw [l225, leNN (by decide) (by omega)]; omega), vpN (by omega), nI_clamp (by omega), (b3.2.2.2.1 i x hx).2]
    refine ⟨by omega, han I4 _ x b4 hPx ⟨by omega, fun I5 e5 => ?_⟩⟩
    have c5 : Chk I I5 := b4.tr ⟨fun j a b c d f g => by rw [e5, sI_n _ _ g], fun j u v => by rw [e5, sI_n _ _ (by decide)]⟩
    have hst := bfB_step hx
    have h8 : ∀ j, I5 8 j = if j = i then nI (an x) else I4 8 j := fun j => by rw [e5, sI_s, upd_at]
    have h7 : I5 7 = I4 7 := by rw [e5, sI_n _ _ (by decide)]
    refine lp2 (fun n (a : Nat) (I6 : MI) => f_Chart_explore_M_L60 o (nI K) (nI most) (nI i) _ _ n (nI a) I6 J) (fun a I6 => a ≤ K ∧ (rowL (nx x) a (bfB nx K k0 i)).length ≤ most ∧ ChS I6 (rowL (nx x) a (bfB nx K k0 i)) ∧ Chk I I6 ∧ I6 2 1 = nI K ∧ I6 8 = I5 8 ∧ (∀ j, (j < i * 4 ∨ i * 4 + a ≤ j) → I6 7 j = I5 7 j) ∧ ∀ b, b < a → (nx x b = none → I6 7 (i * 4 + b) = -1) ∧ ∀ k, nx x b = some k → ∃ j : Nat, (rowL (nx x) a (bfB nx K k0 i))[j]? = some k ∧ I6 7 (i * 4 + b) = nI j) (fun a _ => 5 - a) ?_ 0 I5 ⟨Nat.zero_le _, b2, b3.kp ⟨by rw [e5, sI_n _ _ (by decide)], by rw [e5, sI_n _ _ (by decide)], by rw [e5, sI_n _ _ (by decide)], by rw [e5, sI_n _ _ (by decide)]⟩, c5, by rw [e5, sI_n _ _ (by decide)]; exact b5, rfl, fun _ _ => rfl, fun b hb => absurd hb (Nat.not_lt_zero _)⟩
    rintro n2 a I6 ⟨d1, d2, d3, d4, d5, d6, d7, d8⟩ ih2
    unfold f_Chart_explore_M_L60
    by_cases ea : a = K
    · rw [if_pos (show nI K ≤ nI a by rw [ea, leNN (by omega) (by omega)]; omega), nI_1, forall_eq]
      subst ea
      obtain ⟨E, hE⟩ := bfB_s nx a k0 i
      refine ih (i + 1) I6 ⟨?_, by rw [hst]; exact d2, by rw [hst]; exact d3, d4, d5, fun i' y hi' hy => ?_⟩ (by omega)
      · have : (bfB nx a k0 i).length ≤ (bfB nx a k0 (i + 1)).length := bfB_len nx a k0 (by omega)
        omega
      · by_cases hii : i' = i
        · subst hii
          have hyx : y = x := by
            have := bfB_get hx (show i' ≤ i' + 1 by omega)
            rw [this] at hy
            cases hy; rfl
          subst hyx
          rw [d6, h8, if_pos rfl, hst]
          exact ⟨rfl, fun b hb => d8 b hb⟩
        · have hy' : (bfB nx a k0 i)[i']? = some y := by
            rw [hE, List.getElem?_append_left (by omega)] at hy
            exact hy
          obtain ⟨t1, t2⟩ := b6 i' y (by omega) hy'
          refine ⟨by rw [d6, h8, if_neg hii]; exact t1, fun b hb => ⟨fun hn => ?_, fun k hk => ?_⟩⟩
          · rw [d7 _ (by omega), h7]; exact (t2 b hb).1 hn
          · obtain ⟨j, j1, j2⟩ := (t2 b hb).2 k hk
            refine ⟨j, by rw [hE]; exact pre_get j1, ?_⟩
            rw [d7 _ (by omega), h7]; exact j2
    · have hx6 : I6 3 i = nI x := by
        obtain ⟨E, hE⟩ := rowL_p (nx x) a (bfB nx K k0 i)
        exact (d3.2.2.2.1 i x (by rw [hE]; exact pre_get hx)).2
      rw [if_neg (show ¬ nI K ≤ nI a by rw [leNN (by omega) (by omega)]; omega), vpN (by omega), nI_clamp (by omega), hx6]
      refine ⟨by omega, hnx I6 _ x a d4 hPx (by omega) ?_⟩
      -- the row is written, and the next sign comes
      have wr : ∀ (y : Int32) (I7 : MI), ChS I7 (rowL (nx x) (a + 1) (bfB nx K k0 i)) → (rowL (nx x) (a + 1) (bfB nx K k0 i)).length ≤ most → Chk I I7 → I7 2 1 = nI K → I7 7 = I6 7 → I7 8 = I6 8 → ¬ y = -2 → (nx x a = none → y = -1) → (∀ k, nx x a = some k → ∃ j : Nat, (rowL (nx x) (a + 1) (bfB nx K k0 i))[j]? = some k ∧ y = nI j) → ∀ (k107 k129 : MI → MJ → Prop), (∀ b1 b2, (b1 ≤ K ∧ (rowL (nx x) b1 (bfB nx K k0 i)).length ≤ most ∧ ChS b2 (rowL (nx x) b1 (bfB nx K k0 i)) ∧ Chk I b2 ∧ b2 2 1 = nI K ∧ b2 8 = I5 8 ∧ (∀ j, (j < i * 4 ∨ i * 4 + b1 ≤ j) → b2 7 j = I5 7 j) ∧ ∀ b, b < b1 → (nx x b = none → b2 7 (i * 4 + b) = -1) ∧ ∀ k, nx x b = some k → ∃ j : Nat, (rowL (nx x) b1 (bfB nx K k0 i))[j]? = some k ∧ b2 7 (i * 4 + b) = nI j) → 5 - b1 < 5 - a → f_Chart_explore_M_L60 o (nI K) (nI most) (nI i) k107 k129 n2 (nI b1) b2 J) → f_Chart_explore_M_b98 (nI i) (nI a) y (f_Chart_explore_M_L60 o (nI K) (nI most) (nI i) k107 k129 n2) k107 I7 J := by
        intro y I7 g1 g2 g3 g4 g5 g6 g7 g8 g9 k107 k129 ih3
        unfold f_Chart_explore_M_b98
        rw [if_neg g7, l4, pk_mul, nI_add, vpN (by omega), nI_clamp (by omega)]
        refine ⟨by omega, fun I8 e8 t et => ?_⟩
        rw [et, nI_1]
        have m7 : ∀ j, I8 7 j = if j = i * 4 + a then y else I6 7 j := fun j => by rw [e8, sI_s, upd_at, g5]
        obtain ⟨E, hE⟩ := rowL_mono (nx x) (show a ≤ a + 1 by omega) (bfB nx K k0 i)
        refine ih3 (a + 1) I8 ⟨by omega, g2, g1.kp ⟨by rw [e8, sI_n _ _ (by decide)], by rw [e8, sI_n _ _ (by decide)], by rw [e8, sI_n _ _ (by decide)], by rw [e8, sI_n _ _ (by decide)]⟩, g3.tr ⟨fun j a b c d f g => by rw [e8, sI_n _ _ f], fun j u v => by rw [e8, sI_n _ _ (by decide)]⟩, by rw [e8, sI_n _ _ (by decide)]; exact g4, by rw [e8, sI_n _ _ (by decide), g6, d6], fun j hj => by rw [m7, if_neg (by omega)]; exact d7 j (by omega), fun b hb => ⟨fun hn => ?_, fun k hk => ?_⟩⟩ (by omega)
        · rw [m7]
          by_cases hba : b = a
          · rw [if_pos (by omega)]; subst hba; exact g8 hn
          · rw [if_neg (by omega)]; exact (d8 b (by omega)).1 hn
        · rw [m7]
          by_cases hba : b = a
          · rw [if_pos (by omega)]; subst hba; exact g9 k hk
          · rw [if_neg (by omega)]
            obtain ⟨j, j1, j2⟩ := (d8 b (by omega)).2 k hk
            exact ⟨j, by rw [hE]; exact pre_get j1, j2⟩
      cases hn : nx x a with
      | none =>
        rw [if_pos (show enO none = -1 from rfl)]
        have hr : rowL (nx x) (a + 1) (bfB nx K k0 i) = rowL (nx x) a (bfB nx K k0 i) := by
          conv => lhs; unfold rowL
          rw [hn]
        exact wr (-1) I6 (by rw [hr]; exact d3) (by rw [hr]; exact d2) d4 d5 rfl rfl (by decide) (fun _ => rfl) (fun k hk => by rw [hn] at hk; cases hk) _ _ ih2
      | some k =>
        have hPk := hPs x a k hPx (by omega) hn
        have hk31 := hP31 k hPk
        have hr : rowL (nx x) (a + 1) (bfB nx K k0 i) = pushL (rowL (nx x) a (bfB nx K k0 i)) k := by
          conv => lhs; unfold rowL
          rw [hn]
        rw [if_neg (show ¬ enO (some k) = -1 from lm1 hk31)]
        refine c_node (L := rowL (nx x) a (bfB nx K k0 i)) d3 hk31 hm (fun j hj => ?_) (fun hno hl => ?_) (fun hno hl I7 h7' f1 f2 => ?_)
        · have hr2 : rowL (nx x) (a + 1) (bfB nx K k0 i) = rowL (nx x) a (bfB nx K k0 i) := by
            rw [hr]; unfold pushL; rw [if_pos (List.mem_of_getElem? hj)]
          have hjl := (List.getElem?_eq_some_iff.mp hj).1
          exact wr (nI j) I6 (by rw [hr2]; exact d3) (by rw [hr2]; exact d2) d4 d5 rfl rfl (lm2 (by omega)) (fun hh => by rw [hn] at hh; cases hh) (fun k' hk' => by rw [hn] at hk'; cases hk'; exact ⟨j, by rw [hr2]; exact hj, rfl⟩) _ _ ih2
        · unfold f_Chart_explore_M_b98
          rw [if_pos rfl]
          refine q0 ?_ I6 d4 d3.has
          have hr2 : rowL (nx x) (a + 1) (bfB nx K k0 i) = rowL (nx x) a (bfB nx K k0 i) ++ [k] := by
            rw [hr]; unfold pushL; rw [if_neg hno]
          obtain ⟨E, hE⟩ := rowL_mono (nx x) (show a + 1 ≤ K by omega) (bfB nx K k0 i)
          obtain ⟨E2, hE2⟩ := bfB_mono nx K k0 (show i + 1 ≤ most by omega)
          rw [hE2, hst, hE, hr2]
          simp
          omega
        · have hr2 : rowL (nx x) (a + 1) (bfB nx K k0 i) = rowL (nx x) a (bfB nx K k0 i) ++ [k] := by
            rw [hr]; unfold pushL; rw [if_neg hno]
          exact wr (nI (rowL (nx x) a (bfB nx K k0 i)).length) I7 (by rw [hr2]; exact h7') (by rw [hr2]; simp; omega) (d4.tr ⟨fun j a b c d f g => f1 j a b c d, fun j u v => f2 j u⟩) (by rw [f2 1 (by decide)]; exact d5) (f1 7 (by decide) (by decide) (by decide) (by decide)) (f1 8 (by decide) (by decide) (by decide) (by decide)) (lm2 (by omega)) (fun hh => by rw [hn] at hh; cases hh) (fun k' hk' => by rw [hn] at hk'; cases hk'; exact ⟨_, by rw [hr2]; simp, rfl⟩) _ _ ih2
theorem ex_J {most K k0 : Nat} {nx : Nat → Nat → Option Nat} {an : Nat → Nat} {P : Nat → Prop} {I : MI} {J : MJ} {Q : Int32 → MI → MJ → Prop} (hH : HaS I) (hK : K ≤ 4) (hm1 : 1 ≤ most) (hm : most ≤ 225) (hP0 : P k0) (hPs : ∀ x a k, P x → a < K → nx x a = some k → P k) (hP31 : ∀ x, P x → x < 2 ^ 31) (hfk : ∀ (I' : MI) (R : Int32 → MI → MJ → Prop), Chk I I' → R (nI k0) I' J → f_Joining_firstKey I' J R) (hnx : ∀ (I' : MI) (R : Int32 → MI → MJ → Prop) (x a : Nat), Chk I I' → P x → a < K → R (enO (nx x a)) I' J → f_Joining_nextKey (nI x) (nI a) I' J R) (han : ∀ (I' : MI) (R : Int32 → MI → MJ → Prop) (x : Nat), Chk I I' → P x → R (nI (an x)) I' J → f_Joining_answerAt (nI x) I' J R) (q0 : most < (bfB nx K k0 most).length → ∀ I', Chk I I' → HaS I' → Q 0 I' J) (q1 : (bfB nx K k0 most).length ≤ most → ∀ I', Chk I I' → ChS I' (bfB nx K k0 most) → TbS I' nx an K (bfB nx K k0 most) → Q 1 I' J) : f_Chart_explore_J (nI K) (nI most) I J Q := by
  unfold f_Chart_explore_J
  refine c_wipe hH (fun I1 h1 e1 e2 => ?_)
  rw [forall_eq]
  have c2 : Chk I (sI I1 2 (upd (I1 2) 1 (nI K))) := ⟨fun i a b c d f g => by rw [sI_n _ _ a, e1 i a d], fun j u v => by rw [sI_s, pk_un v, e2 j u]⟩
  have h2 : ChS (sI I1 2 (upd (I1 2) 1 (nI K))) [] := h1.kp ⟨by rw [sI_s, pk_un (by decide)], sI_n _ _ (by decide), sI_n _ _ (by decide), sI_n _ _ (by decide)⟩
  have k2 : (sI I1 2 (upd (I1 2) 1 (nI K))) 2 1 = nI K := by rw [sI_s, pk_us]
  generalize (sI I1 2 (upd (I1 2) 1 (nI K))) = I2 at c2 h2 k2
  refine hfk I2 _ c2 (c_node h2 (hP31 _ hP0) hm (fun i hi => by simp at hi) (fun _ hl => absurd hl (by simp; omega)) (fun _ _ I3 h3 e3 e4 => ?_))
  have c3 : Chk I I3 := c2.tr ⟨fun i a b c d f g => e3 i a b c d, fun j u v => e4 j u⟩
  have k3 : I3 2 1 = nI K := by rw [e4 1 (by decide)]; exact k2
  have hPl : ∀ i x, x ∈ bfB nx K k0 i → P x := bfB_inv hP0 hPs
  refine lp2 (fun n (i : Nat) (I4 : MI) => f_Chart_explore_J_L22 (nI K) (nI most) _ _ n (nI i) I4 J) (fun i I4 => i ≤ (bfB nx K k0 i).length ∧ (bfB nx K k0 i).length ≤ most ∧ ChS I4 (bfB nx K k0 i) ∧ Chk I I4 ∧ I4 2 1 = nI K ∧ TbP I4 nx an K (bfB nx K k0 i) i) (fun i _ => 226 - i) ?_ 0 I3 ⟨Nat.zero_le _, by simpa [bfB] using hm1, h3, c3, k3, fun i' x hi' => absurd hi' (Nat.not_lt_zero _)⟩
  rintro n i I4 ⟨b1, b2, b3, b4, b5, b6⟩ ih
  unfold f_Chart_explore_J_L22
  rw [b3.1]
  by_cases ei : i = (bfB nx K k0 i).length
  · rw [if_pos (show nI (bfB nx K k0 i).length ≤ nI i by rw [leNN (by omega) (by omega)]; omega)]
    have hcl := bfB_cl (nx := nx) (K := K) (k0 := k0) (i := i) (by omega) most (by omega)
    rw [hcl] at q1
    refine q1 b2 I4 b4 b3 ⟨b5, fun i' x hx => b6 i' x ?_ hx⟩
    have := (List.getElem?_eq_some_iff.mp hx).1
    omega
  · have hil : i < (bfB nx K k0 i).length := by omega
    have hx := List.getElem?_eq_getElem hil
    generalize (bfB nx K k0 i)[i] = x at hx
    have hPx := hPl i x (List.mem_of_getElem? hx)
    rw [if_neg (show ¬ nI (bfB nx K k0 i).length ≤ nI i by rw [leNN (by omega) (by omega)]; omega), if_neg (show ¬ (225 : Int32) ≤ nI i by rw [l225, leNN (by decide) (by omega)]; omega), vpN (by omega), nI_clamp (by omega), (b3.2.2.2.1 i x hx).2]
    refine ⟨by omega, han I4 _ x b4 hPx ⟨by omega, fun I5 e5 => ?_⟩⟩
    have c5 : Chk I I5 := b4.tr ⟨fun j a b c d f g => by rw [e5, sI_n _ _ g], fun j u v => by rw [e5, sI_n _ _ (by decide)]⟩
    have hst := bfB_step hx
    have h8 : ∀ j, I5 8 j = if j = i then nI (an x) else I4 8 j := fun j => by rw [e5, sI_s, upd_at]
    have h7 : I5 7 = I4 7 := by rw [e5, sI_n _ _ (by decide)]
    refine lp2 (fun n (a : Nat) (I6 : MI) => f_Chart_explore_J_L60 (nI K) (nI most) (nI i) _ _ n (nI a) I6 J) (fun a I6 => a ≤ K ∧ (rowL (nx x) a (bfB nx K k0 i)).length ≤ most ∧ ChS I6 (rowL (nx x) a (bfB nx K k0 i)) ∧ Chk I I6 ∧ I6 2 1 = nI K ∧ I6 8 = I5 8 ∧ (∀ j, (j < i * 4 ∨ i * 4 + a ≤ j) → I6 7 j = I5 7 j) ∧ ∀ b, b < a → (nx x b = none → I6 7 (i * 4 + b) = -1) ∧ ∀ k, nx x b = some k → ∃ j : Nat, (rowL (nx x) a (bfB nx K k0 i))[j]? = some k ∧ I6 7 (i * 4 + b) = nI j) (fun a _ => 5 - a) ?_ 0 I5 ⟨Nat.zero_le _, b2, b3.kp ⟨by rw [e5, sI_n _ _ (by decide)], by rw [e5, sI_n _ _ (by decide)], by rw [e5, sI_n _ _ (by decide)], by rw [e5, sI_n _ _ (by decide)]⟩, c5, by rw [e5, sI_n _ _ (by decide)]; exact b5, rfl, fun _ _ => rfl, fun b hb => absurd hb (Nat.not_lt_zero _)⟩
    rintro n2 a I6 ⟨d1, d2, d3, d4, d5, d6, d7, d8⟩ ih2
    unfold f_Chart_explore_J_L60
    by_cases ea : a = K
    · rw [if_pos (show nI K ≤ nI a by rw [ea, leNN (by omega) (by omega)]; omega), nI_1, forall_eq]
      subst ea
      obtain ⟨E, hE⟩ := bfB_s nx a k0 i
      refine ih (i + 1) I6 ⟨?_, by rw [hst]; exact d2, by rw [hst]; exact d3, d4, d5, fun i' y hi' hy => ?_⟩ (by omega)
      · have : (bfB nx a k0 i).length ≤ (bfB nx a k0 (i + 1)).length := bfB_len nx a k0 (by omega)
        omega
      · by_cases hii : i' = i
        · subst hii
          have hyx : y = x := by
            have := bfB_get hx (show i' ≤ i' + 1 by omega)
            rw [this] at hy
            cases hy; rfl
          subst hyx
          rw [d6, h8, if_pos rfl, hst]
          exact ⟨rfl, fun b hb => d8 b hb⟩
        · have hy' : (bfB nx a k0 i)[i']? = some y := by
            rw [hE, List.getElem?_append_left (by omega)] at hy
            exact hy
          obtain ⟨t1, t2⟩ := b6 i' y (by omega) hy'
          refine ⟨by rw [d6, h8, if_neg hii]; exact t1, fun b hb => ⟨fun hn => ?_, fun k hk => ?_⟩⟩
          · rw [d7 _ (by omega), h7]; exact (t2 b hb).1 hn
          · obtain ⟨j, j1, j2⟩ := (t2 b hb).2 k hk
            refine ⟨j, by rw [hE]; exact pre_get j1, ?_⟩
            rw [d7 _ (by omega), h7]; exact j2
    · have hx6 : I6 3 i = nI x := by
        obtain ⟨E, hE⟩ := rowL_p (nx x) a (bfB nx K k0 i)
        exact (d3.2.2.2.1 i x (by rw [hE]; exact pre_get hx)).2
      rw [if_neg (show ¬ nI K ≤ nI a by rw [leNN (by omega) (by omega)]; omega), vpN (by omega), nI_clamp (by omega), hx6]
      refine ⟨by omega, hnx I6 _ x a d4 hPx (by omega) ?_⟩
      -- the row is written, and the next sign comes
      have wr : ∀ (y : Int32) (I7 : MI), ChS I7 (rowL (nx x) (a + 1) (bfB nx K k0 i)) → (rowL (nx x) (a + 1) (bfB nx K k0 i)).length ≤ most → Chk I I7 → I7 2 1 = nI K → I7 7 = I6 7 → I7 8 = I6 8 → ¬ y = -2 → (nx x a = none → y = -1) → (∀ k, nx x a = some k → ∃ j : Nat, (rowL (nx x) (a + 1) (bfB nx K k0 i))[j]? = some k ∧ y = nI j) → ∀ (k107 k129 : MI → MJ → Prop), (∀ b1 b2, (b1 ≤ K ∧ (rowL (nx x) b1 (bfB nx K k0 i)).length ≤ most ∧ ChS b2 (rowL (nx x) b1 (bfB nx K k0 i)) ∧ Chk I b2 ∧ b2 2 1 = nI K ∧ b2 8 = I5 8 ∧ (∀ j, (j < i * 4 ∨ i * 4 + b1 ≤ j) → b2 7 j = I5 7 j) ∧ ∀ b, b < b1 → (nx x b = none → b2 7 (i * 4 + b) = -1) ∧ ∀ k, nx x b = some k → ∃ j : Nat, (rowL (nx x) b1 (bfB nx K k0 i))[j]? = some k ∧ b2 7 (i * 4 + b) = nI j) → 5 - b1 < 5 - a → f_Chart_explore_J_L60 (nI K) (nI most) (nI i) k107 k129 n2 (nI b1) b2 J) → f_Chart_explore_J_b98 (nI i) (nI a) y (f_Chart_explore_J_L60 (nI K) (nI most) (nI i) k107 k129 n2) k107 I7 J := by
        intro y I7 g1 g2 g3 g4 g5 g6 g7 g8 g9 k107 k129 ih3
        unfold f_Chart_explore_J_b98
        rw [if_neg g7, l4, pk_mul, nI_add, vpN (by omega), nI_clamp (by omega)]
        refine ⟨by omega, fun I8 e8 t et => ?_⟩
        rw [et, nI_1]
        have m7 : ∀ j, I8 7 j = if j = i * 4 + a then y else I6 7 j := fun j => by rw [e8, sI_s, upd_at, g5]
        obtain ⟨E, hE⟩ := rowL_mono (nx x) (show a ≤ a + 1 by omega) (bfB nx K k0 i)
        refine ih3 (a + 1) I8 ⟨by omega, g2, g1.kp ⟨by rw [e8, sI_n _ _ (by decide)], by rw [e8, sI_n _ _ (by decide)], by rw [e8, sI_n _ _ (by decide)], by rw [e8, sI_n _ _ (by decide)]⟩, g3.tr ⟨fun j a b c d f g => by rw [e8, sI_n _ _ f], fun j u v => by rw [e8, sI_n _ _ (by decide)]⟩, by rw [e8, sI_n _ _ (by decide)]; exact g4, by rw [e8, sI_n _ _ (by decide), g6, d6], fun j hj => by rw [m7, if_neg (by omega)]; exact d7 j (by omega), fun b hb => ⟨fun hn => ?_, fun k hk => ?_⟩⟩ (by omega)
        · rw [m7]
          by_cases hba : b = a
          · rw [if_pos (by omega)]; subst hba; exact g8 hn
          · rw [if_neg (by omega)]; exact (d8 b (by omega)).1 hn
        · rw [m7]
          by_cases hba : b = a
          · rw [if_pos (by omega)]; subst hba; exact g9 k hk
          · rw [if_neg (by omega)]
            obtain ⟨j, j1, j2⟩ := (d8 b (by omega)).2 k hk
            exact ⟨j, by rw [hE]; exact pre_get j1, j2⟩
      cases hn : nx x a with
      | none =>
        rw [if_pos (show enO none = -1 from rfl)]
        have hr : rowL (nx x) (a + 1) (bfB nx K k0 i) = rowL (nx x) a (bfB nx K k0 i) := by
          conv => lhs; unfold rowL
          rw [hn]
        exact wr (-1) I6 (by rw [hr]; exact d3) (by rw [hr]; exact d2) d4 d5 rfl rfl (by decide) (fun _ => rfl) (fun k hk => by rw [hn] at hk; cases hk) _ _ ih2
      | some k =>
        have hPk := hPs x a k hPx (by omega) hn
        have hk31 := hP31 k hPk
        have hr : rowL (nx x) (a + 1) (bfB nx K k0 i) = pushL (rowL (nx x) a (bfB nx K k0 i)) k := by
          conv => lhs; unfold rowL
          rw [hn]
        rw [if_neg (show ¬ enO (some k) = -1 from lm1 hk31)]
        refine c_node (L := rowL (nx x) a (bfB nx K k0 i)) d3 hk31 hm (fun j hj => ?_) (fun hno hl => ?_) (fun hno hl I7 h7' f1 f2 => ?_)
        · have hr2 : rowL (nx x) (a + 1) (bfB nx K k0 i) = rowL (nx x) a (bfB nx K k0 i) := by
            rw [hr]; unfold pushL; rw [if_pos (List.mem_of_getElem? hj)]
          have hjl := (List.getElem?_eq_some_iff.mp hj).1
          exact wr (nI j) I6 (by rw [hr2]; exact d3) (by rw [hr2]; exact d2) d4 d5 rfl rfl (lm2 (by omega)) (fun hh => by rw [hn] at hh; cases hh) (fun k' hk' => by rw [hn] at hk'; cases hk'; exact ⟨j, by rw [hr2]; exact hj, rfl⟩) _ _ ih2
        · unfold f_Chart_explore_J_b98
          rw [if_pos rfl]
          refine q0 ?_ I6 d4 d3.has
          have hr2 : rowL (nx x) (a + 1) (bfB nx K k0 i) = rowL (nx x) a (bfB nx K k0 i) ++ [k] := by
            rw [hr]; unfold pushL; rw [if_neg hno]
          obtain ⟨E, hE⟩ := rowL_mono (nx x) (show a + 1 ≤ K by omega) (bfB nx K k0 i)
          obtain ⟨E2, hE2⟩ := bfB_mono nx K k0 (show i + 1 ≤ most by omega)
          rw [hE2, hst, hE, hr2]
          simp
          omega
        · have hr2 : rowL (nx x) (a + 1) (bfB nx K k0 i) = rowL (nx x) a (bfB nx K k0 i) ++ [k] := by
            rw [hr]; unfold pushL; rw [if_neg hno]
          exact wr (nI (rowL (nx x) a (bfB nx K k0 i)).length) I7 (by rw [hr2]; exact h7') (by rw [hr2]; simp; omega) (d4.tr ⟨fun j a b c d f g => f1 j a b c d, fun j u v => f2 j u⟩) (by rw [f2 1 (by decide)]; exact d5) (f1 7 (by decide) (by decide) (by decide) (by decide)) (f1 8 (by decide) (by decide) (by decide) (by decide)) (lm2 (by omega)) (fun hh => by rw [hn] at hh; cases hh) (fun k' hk' => by rw [hn] at hk'; cases hk'; exact ⟨_, by rw [hr2]; simp, rfl⟩) _ _ ih2
