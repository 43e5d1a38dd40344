/-! the reference's sets -/
theorem spF_inj {f g : Nat} (hf : f ≤ 14) (hg : g ≤ 14) (e : en1 (spF f) = en1 (spF g)) : f = g := by
  unfold spF at e
  by_cases h1 : f = 14
  · by_cases h2 : g = 14
    · rw [h1, h2]
    · rw [if_pos h1, if_neg h2] at e
      have e' : (-1 : Int32) = nI g := e
      exact absurd e' (lm1' (by omega))
  · by_cases h2 : g = 14
    · rw [if_neg h1, if_pos h2] at e
      have e' : nI f = (-1 : Int32) := e
      exact absurd e' (lm1 (by omega))
    · rw [if_neg h1, if_neg h2] at e
      have e' : nI f = nI g := e
      exact (nI_eq (by omega) (by omega)).mp e'
theorem e_inj {how k k' : Nat} {A B : AM} (h5 : how ≤ 5) (hk : PJ how A B k) (hk' : PJ how A B k') (e1 : eO how k = eO how k') (e2 : eS how k = eS how k') : k = k' := by
  have a31 := PJ_31 hk
  have b31 := PJ_31 hk'
  have fin : k / 16384 = k' / 16384 → k % 16384 = k' % 16384 → k = k' := fun h1 h2 => by omega
  rcases h6 h5 with rfl | rfl | rfl | rfl | rfl | rfl
  · exact fin (spF_inj (PJ_f hk (by decide) (by decide)).1 (PJ_f hk' (by decide) (by decide)).1 e1) (spF_inj (PJ_b hk (by decide)).1 (PJ_b hk' (by decide)).1 e2)
  · exact fin (spF_inj (PJ_f hk (by decide) (by decide)).1 (PJ_f hk' (by decide) (by decide)).1 e1) (spF_inj (PJ_b hk (by decide)).1 (PJ_b hk' (by decide)).1 e2)
  · have h1 := spF_inj (PJ_f hk (by decide) (by decide)).1 (PJ_f hk' (by decide) (by decide)).1 e1
    have c1 : k / 16384 = k % 16384 := by
      unfold PJ at hk
      rw [if_neg (by decide), if_neg (by decide), if_neg (by decide)] at hk
      exact hk.2.2 rfl
    have c2 : k' / 16384 = k' % 16384 := by
      unfold PJ at hk'
      rw [if_neg (by decide), if_neg (by decide), if_neg (by decide)] at hk'
      exact hk'.2.2 rfl
    exact fin h1 (by omega)
  · have e2' : nI (k % 16384) = nI (k' % 16384) := e2
    exact fin (spF_inj (PJ_f hk (by decide) (by decide)).1 (PJ_f hk' (by decide) (by decide)).1 e1) ((nI_eq (by omega) (by omega)).mp e2')
  · have e2' : nI (k % 16384) = nI (k' % 16384) := e2
    have h1 : k < 16384 := hk
    have h2 : k' < 16384 := hk'
    have := (nI_eq (by omega) (by omega)).mp e2'
    omega
  · have h1 : k = 16384 ∨ k < 16384 := hk
    have h2 : k' = 16384 ∨ k' < 16384 := hk'
    have e1' : (if k = 16384 then (1 : Int32) else 0) = (if k' = 16384 then (1 : Int32) else 0) := e1
    have e2' : (if k = 16384 then 1 else nI (k % 16384)) = (if k' = 16384 then 1 else nI (k' % 16384)) := e2
    by_cases c1 : k = 16384
    · by_cases c2 : k' = 16384
      · omega
      · rw [if_pos c1, if_neg c2] at e1'; exact absurd e1' (by decide)
    · by_cases c2 : k' = 16384
      · rw [if_neg c1, if_pos c2] at e1'; exact absurd e1' (by decide)
      · rw [if_neg c1, if_neg c2] at e2'
        have := (nI_eq (by omega) (by omega)).mp e2'
        omega
def StM (I : MI) (how : Nat) (L : List Nat) : Prop := I 177 32 = nI L.length ∧ ∀ (j k : Nat), L[j]? = some k → I 205 j = eO how k ∧ I 206 j = eS how k
/-- what the sets change -/
def SeF (I I' : MI) : Prop := (∀ i, i ≠ 177 → i ≠ 205 → i ≠ 206 → i ≠ 207 → i ≠ 208 → I' i = I i) ∧ ∀ k, k ≠ 32 → k ≠ 39 → k ≠ 40 → I' 177 k = I 177 k
theorem SeF.rf {I : MI} : SeF I I := ⟨fun _ _ _ _ _ _ => rfl, fun _ _ _ _ => rfl⟩
theorem SeF.tr {I I' I'' : MI} (h : SeF I I') (h' : SeF I' I'') : SeF I I'' := ⟨fun i a b c d e => (h'.1 i a b c d e).trans (h.1 i a b c d e), fun k a b c => (h'.2 k a b c).trans (h.2 k a b c)⟩
theorem SeF.j2 {I I' : MI} (h : J2 I I') : SeF I I' := ⟨fun i a _ _ _ _ => h.1 i a, fun k _ b c => h.2 k b c⟩
theorem SeF.rep {I I' : MI} {m : Nat} {A : AM} (h : SeF I I') (hA : RepM I m A) : RepM I' m A := by
  unfold RepM RowM at *
  have f : ∀ i, 184 ≤ i → i ≤ 190 → I' i = I i := fun i a b => h.1 i (by omega) (by omega) (by omega) (by omega) (by omega)
  rw [f 184 (by decide) (by decide), f 185 (by decide) (by decide), f 186 (by decide) (by decide), f 187 (by decide) (by decide), f 188 (by decide) (by decide), f 189 (by decide) (by decide), f 190 (by decide) (by decide)]
  exact hA
theorem SeF.jn {I I' : MI} {A B : AM} (h : SeF I I') (hA : JnM I A B) : JnM I' A B := ⟨h.rep hA.1, h.rep hA.2⟩
theorem m_number {how k : Nat} {A B : AM} {L : List Nat} {I : MI} {J : MJ} {Q : Int32 → MI → MJ → Prop} (h5 : how ≤ 5) (hS : StM I how L) (hL : ∀ x ∈ L, PJ how A B x) (hk : PJ how A B k) (hl : L.length < 512) (h39 : I 177 39 = eO how k) (h40 : I 177 40 = eS how k) (hnd : L.Nodup) (q1 : ∀ j : Nat, L[j]? = some k → Q (nI j) I J) (q0 : k ∉ L → ∀ I', SeF I I' → I' 207 = I 207 → I' 208 = I 208 → StM I' how (L ++ [k]) → Q (nI L.length) I' J) : f_Model_numberOfSet I J Q := by
  unfold f_Model_numberOfSet
  refine lp2 (fun n (fd : Option Nat) (i : Nat) => f_Model_numberOfSet_L4 _ n (enO fd) (nI i) I J) (fun fd i => i ≤ L.length ∧ (fd = none → ∀ j, j < i → L[j]? ≠ some k) ∧ ∀ j, fd = some j → L[j]? = some k) (fun _ i => L.length - i) ?_ none 0 ⟨Nat.zero_le _, (fun _ j hj => absurd hj (Nat.not_lt_zero _)), (fun j hj => by cases hj)⟩
  rintro n fd i ⟨b1, b2, b3⟩ ih
  unfold f_Model_numberOfSet_L4
  rw [hS.1]
  by_cases ei : i = L.length
  · rw [if_pos (by rw [ei, leNN (by omega) (by omega)]; exact Nat.le_refl _)]
    cases fd with
    | some j =>
      have hj := b3 j rfl
      have hjl := (List.getElem?_eq_some_iff.mp hj).1
      rw [show enO (some j) = nI j from rfl, if_pos (nI0_le (by omega))]
      exact q1 j hj
    | none =>
      have hno : k ∉ L := fun hin => by
        obtain ⟨j, hj⟩ := List.mem_iff_getElem?.mp hin
        exact b2 rfl j (by have := (List.getElem?_eq_some_iff.mp hj).1; omega) hj
      rw [if_neg (by decide), forall_eq, vpN (by omega), nI_clamp (by omega), h39]
      refine ⟨hl, fun I1 e1 => ?_⟩
      rw [show I1 177 40 = eS how k by rw [e1, sI_n _ _ (by decide)]; exact h40]
      refine ⟨hl, fun I2 e2 I3 e3 => ?_⟩
      rw [show I2 177 32 = nI L.length by rw [e2, sI_n _ _ (by decide), e1, sI_n _ _ (by decide)]; exact hS.1, nI_1] at e3
      have f1 : ∀ i, i ≠ 177 → i ≠ 205 → i ≠ 206 → I3 i = I i := fun i a b c => by rw [e3, sI_n _ _ a, e2, sI_n _ _ c, e1, sI_n _ _ b]
      refine q0 hno I3 ⟨fun i a b c _ _ => f1 i a b c, fun k a _ _ => by rw [e3, sI_s, pk_un a, e2, sI_n _ _ (by decide), e1, sI_n _ _ (by decide)]⟩ (f1 207 (by decide) (by decide) (by decide)) (f1 208 (by decide) (by decide) (by decide)) ⟨by rw [e3, sI_s, pk_us, List.length_append]; rfl, fun j x hx => ?_⟩
      have m1 : I3 205 j = if j = L.length then eO how k else I 205 j := by rw [e3, sI_n _ _ (by decide), e2, sI_n _ _ (by decide), e1, sI_s, upd_at]
      have m2 : I3 206 j = if j = L.length then eS how k else I 206 j := by rw [e3, sI_n _ _ (by decide), e2, sI_s, upd_at, e1, sI_n _ _ (by decide)]
      rw [m1, m2]
      rcases app_get hx with ⟨u1, u2⟩ | ⟨u1, u2⟩
      · rw [if_neg (by omega), if_neg (by omega)]; exact hS.2 j x u2
      · rw [if_pos u1, if_pos u1, u2]; exact ⟨rfl, rfl⟩
  · have hx := List.getElem?_eq_getElem (show i < L.length by omega)
    generalize L[i] = x at hx
    obtain ⟨s1, s2⟩ := hS.2 i x hx
    have hPx := hL x (List.mem_of_getElem? hx)
    rw [if_neg (by rw [leNN (by omega) (by omega)]; omega), vpN (by omega), nI_clamp (by omega), s1, s2, h39, h40]
    unfold f_Model_numberOfSet_b42 f_Model_numberOfSet_b43
    rw [nI_1, forall_eq, forall_eq]
    refine ⟨by omega, ?_⟩
    have skip : x ≠ k → f_Model_numberOfSet_L4 (fun (z50_x1 : Int32) (I : MI) (J : MJ) => (if 0 ≤ z50_x1 then Q z50_x1 I J else ∀ t58 : Int32, t58 = I 177 32 → vp_in t58 512 ∧ ∀ I68 : MI, I68 = sI I 205 (upd (I 205) t58.toNatClampNeg (I 177 39)) → vp_in t58 512 ∧ ∀ I78 : MI, I78 = sI I68 206 (upd (I68 206) t58.toNatClampNeg (I68 177 40)) → ∀ I86 : MI, I86 = sI I78 177 (upd (I78 177) 32 ((I78 177 32) + 1)) → Q t58 I86 J)) n (enO fd) (nI (i + 1)) I J := fun hne => by
      refine ih fd (i + 1) ⟨by omega, fun hf j hj => ?_, b3⟩ (by omega)
      by_cases hji : j = i
      · subst hji; rw [hx]; intro e; cases e; exact hne rfl
      · exact b2 hf j (by omega)
    by_cases ex : x = k
    · rw [if_pos (by rw [ex])]
      refine ⟨by omega, ?_⟩
      rw [if_pos (by rw [ex])]
      subst ex
      exact ih (some i) (i + 1) ⟨by omega, (fun hh => by cases hh), fun j hj => by cases hj; exact hx⟩ (by omega)
    · by_cases c1 : eO how x = eO how k
      · rw [if_pos c1]
        refine ⟨by omega, ?_⟩
        rw [if_neg (fun c2 => ex (e_inj h5 hPx hk c1 c2))]
        exact skip ex
      · rw [if_neg c1]
        exact skip ex
theorem rowL_le {f : Nat → Option Nat} : ∀ a (L : List Nat), (rowL f a L).length ≤ L.length + a
  | 0, L => by simp [rowL]
  | a + 1, L => by
    have ih := rowL_le (f := f) a L
    unfold rowL
    cases f a with
    | none => show (rowL f a L).length ≤ _; omega
    | some k =>
      show (pushL (rowL f a L) k).length ≤ _
      unfold pushL
      split
      · omega
      · rw [List.length_append]; simp; omega
def TbM (I : MI) (how : Nat) (A B : AM) (K : Nat) (L : List Nat) (n : Nat) : Prop := ∀ (i x : Nat), i < n → L[i]? = some x → I 208 i = nI (anJ how A B x) ∧ ∀ a, a < K → ∃ j : Nat, L[j]? = some (nxJ how A B x a) ∧ I 207 (4 * i + a) = nI j
def mM (how : Nat) : Nat := if how < 3 then 300 else 200
theorem nar01 {n : Nat} (h : n ≤ 1) : vp_nar .boolean (nI n) = nI n := by
  have : n = 0 ∨ n = 1 := by omega
  rcases this with rfl | rfl
  · exact nar0
  · exact nar1
theorem m_sets {how K : Nat} {A B : AM} {I : MI} {J : MJ} {Q : Int32 → MI → MJ → Prop} (h : JnM I A B) (h5 : how ≤ 5) (h2 : how = 2 → B = A) (hv : VA A) (hw : VA B) (h3 : A.1 ≠ 3) (h3' : B.1 ≠ 3) (hK : K ≤ 4) (q0 : mM how < (bfB (nJ how A B) K (k0J how A) (mM how)).length → ∀ I', SeF I I' → Q 0 I' J) (q1 : (bfB (nJ how A B) K (k0J how A) (mM how)).length ≤ mM how → ∀ I', SeF I I' → StM I' how (bfB (nJ how A B) K (k0J how A) (mM how)) → TbM I' how A B K (bfB (nJ how A B) K (k0J how A) (mM how)) (bfB (nJ how A B) K (k0J how A) (mM how)).length → Q 1 I' J) : f_Model_findSets (nI how) (nI K) I J Q := by
  unfold f_Model_findSets
  have hm : (if 3 ≤ nI how then f_Model_findSets_b14 (nI how) (nI K) 200 Q I J else f_Model_findSets_b14 (nI how) (nI K) 300 Q I J) ↔ f_Model_findSets_b14 (nI how) (nI K) (nI (mM how)) Q I J := by
    unfold mM
    by_cases hh : how < 3
    · rw [if_pos hh, if_neg (by rw [l3, leNN (by decide) (by omega)]; omega)]; exact Iff.rfl
    · rw [if_neg hh, if_pos (by rw [l3, leNN (by decide) (by omega)]; omega)]; exact Iff.rfl
  rw [hm]
  have hm3 : mM how ≤ 300 ∧ 1 ≤ mM how := by unfold mM; split <;> omega
  generalize mM how = M at *
  unfold f_Model_findSets_b14
  intro I1 e1
  have f1 : SeF I I1 := ⟨fun i a _ _ _ _ => by rw [e1, sI_n _ _ a], fun k a _ _ => by rw [e1, sI_s, pk_un a]⟩
  have hP0 := PJ_0 (how := how) hv hw
  have hPn : ∀ x a k, PJ how A B x → a < K → nJ how A B x a = some k → PJ how A B k := fun x a k hx _ hk => by cases hk; exact PJ_nx hv hw h2 hx
  have hall : ∀ i k, k ∈ bfB (nJ how A B) K (k0J how A) i → PJ how A B k := bfB_inv hP0 hPn
  refine m_first (f1.jn h) h5 hv (fun I2 j2 c39 c40 => ?_)
  have f2 := f1.tr (SeF.j2 j2)
  have st0 : StM I2 how [] := ⟨by rw [j2.2 32 (by decide) (by decide), e1, sI_s, pk_us]; rfl, fun j k hk => by simp at hk⟩
  refine m_number h5 st0 (fun x hx => by cases hx) hP0 (by decide) c39 c40 (by simp) (fun j hj => by simp at hj) (fun _ I3 f3 _ _ st3 => ?_)
  have f3' := f2.tr f3
  refine lp2 (fun n (i : Nat) (I4 : MI) => f_Model_findSets_L35 (nI how) (nI K) (nI M) _ n (nI i) I4 J) (fun i I4 => i ≤ M ∧ i ≤ (bfB (nJ how A B) K (k0J how A) i).length ∧ (bfB (nJ how A B) K (k0J how A) i).length ≤ M + 4 ∧ SeF I I4 ∧ StM I4 how (bfB (nJ how A B) K (k0J how A) i) ∧ TbM I4 how A B K (bfB (nJ how A B) K (k0J how A) i) i) (fun i _ => M + 1 - i) ?_ 0 I3 ⟨Nat.zero_le _, Nat.zero_le _, by simp [bfB], f3', st3, fun i x hi => absurd hi (Nat.not_lt_zero _)⟩
  rintro n i I4 ⟨b0, b1, b2, b3, b4, b5⟩ ih
  unfold f_Model_findSets_L35
  rw [b4.1]
  by_cases ei : (bfB (nJ how A B) K (k0J how A) i).length ≤ i
  · rw [if_pos (by rw [leNN (by omega) (by omega)]; exact ei)]
    have hcl := bfB_cl ei M b0
    unfold f_Model_findSets_b116
    rw [b4.1, if_neg (by rw [ltNN (by omega) (by omega)]; omega)]
    rw [hcl] at q1
    exact q1 (by omega) I4 b3 b4 (fun j x hj hx => b5 j x (by omega) hx)
  · rw [if_neg (by rw [leNN (by omega) (by omega)]; exact ei)]
    by_cases em : M < (bfB (nJ how A B) K (k0J how A) i).length
    · rw [if_pos (by rw [ltNN (by omega) (by omega)]; exact em)]
      unfold f_Model_findSets_b116
      rw [b4.1, if_pos (by rw [ltNN (by omega) (by omega)]; exact em)]
      exact q0 (Nat.lt_of_lt_of_le em (bfB_len _ _ _ b0)) I4 b3
    · rw [if_neg (by rw [ltNN (by omega) (by omega)]; exact em)]
      have hil : i < (bfB (nJ how A B) K (k0J how A) i).length := by omega
      have hx := List.getElem?_eq_getElem hil
      generalize (bfB (nJ how A B) K (k0J how A) i)[i] = x at hx
      have hPx := hall i x (List.mem_of_getElem? hx)
      obtain ⟨s1, s2⟩ := b4.2 i x hx
      refine m_bel (b3.jn h) h5 hv hw hPx (by omega) s1 s2 ?_
      rw [vpN (by omega), nI_clamp (by omega), nar01 (anJ_1 _ _ _ _)]
      refine ⟨by omega, fun I5 e5 => ?_⟩
      have hst := bfB_step hx
      have f5 : SeF I I5 := b3.tr ⟨fun j a b c d e => by rw [e5, sI_n _ _ e], fun k _ _ _ => by rw [e5, sI_n _ _ (by decide)]⟩
      have st5 : StM I5 how (bfB (nJ how A B) K (k0J how A) i) := ⟨by rw [e5, sI_n _ _ (by decide)]; exact b4.1, fun j k hk => by rw [e5, sI_n _ _ (by decide), sI_n _ _ (by decide)]; exact b4.2 j k hk⟩
      have m8 : ∀ j, I5 208 j = if j = i then nI (anJ how A B x) else I4 208 j := fun j => by rw [e5, sI_s, upd_at]
      refine lp2 (fun n (a : Nat) (I6 : MI) => f_Model_findSets_L69 (nI how) (nI K) (nI i) _ n (nI a) I6 J) (fun a I6 => a ≤ K ∧ SeF I I6 ∧ I6 208 = I5 208 ∧ StM I6 how (rowL (nJ how A B x) a (bfB (nJ how A B) K (k0J how A) i)) ∧ (∀ j, (j < 4 * i ∨ 4 * i + 4 ≤ j) → I6 207 j = I5 207 j) ∧ ∀ b, b < a → ∃ j : Nat, (rowL (nJ how A B x) a (bfB (nJ how A B) K (k0J how A) i))[j]? = some (nxJ how A B x b) ∧ I6 207 (4 * i + b) = nI j) (fun a _ => 5 - a) ?_ 0 I5 ⟨Nat.zero_le _, f5, rfl, st5, fun _ _ => rfl, fun b hb => absurd hb (Nat.not_lt_zero _)⟩
      rintro n2 a I6 ⟨c0, c1, c2, c3, c4, c5⟩ ih2
      unfold f_Model_findSets_L69
      by_cases ea : a = K
      · subst ea
        rw [if_pos (by rw [leNN (by omega) (by omega)]; exact Nat.le_refl _), nI_1, forall_eq]
        rw [← hst] at c3 c5
        have hle := rowL_le (f := nJ how A B x) a (bfB (nJ how A B) a (k0J how A) i)
        rw [← hst] at hle
        have hmono := bfB_len (nJ how A B) a (k0J how A) (show i ≤ i + 1 by omega)
        refine ih (i + 1) I6 ⟨by omega, by omega, by omega, c1, c3, fun j y hj hy => ?_⟩ (by omega)
        by_cases hji : j = i
        · subst hji
          rw [bfB_get hx (by omega)] at hy
          cases hy
          exact ⟨by rw [c2, m8, if_pos rfl], fun b hb => c5 b hb⟩
        · have hy' : (bfB (nJ how A B) a (k0J how A) i)[j]? = some y := by
            have hg := List.getElem?_eq_getElem (show j < (bfB (nJ how A B) a (k0J how A) i).length by omega)
            have := bfB_get hg (show i ≤ i + 1 by omega)
            rw [this] at hy
            rw [hg]; exact hy
          obtain ⟨t1, t2⟩ := b5 j y (by omega) hy'
          refine ⟨by rw [c2, m8, if_neg hji]; exact t1, fun b hb => ?_⟩
          obtain ⟨l, u1, u2⟩ := t2 b hb
          exact ⟨l, bfB_get u1 (by omega), by rw [c4 _ (by omega), e5, sI_n _ _ (by decide)]; exact u2⟩
      · have haK : a < K := by omega
        have hlr := rowL_le (f := nJ how A B x) a (bfB (nJ how A B) K (k0J how A) i)
        have hxa : (rowL (nJ how A B x) a (bfB (nJ how A B) K (k0J how A) i))[i]? = some x := by
          obtain ⟨E, hE⟩ := rowL_p (nJ how A B x) a (bfB (nJ how A B) K (k0J how A) i)
          rw [hE]; exact pre_get hx
        obtain ⟨t1, t2⟩ := c3.2 i x hxa
        rw [if_neg (by rw [leNN (by omega) (by omega)]; omega)]
        refine m_nextS (c1.jn h) h5 hv hw h3 h3' hPx (by omega) (by omega) t1 t2 (fun I7 j7 c39 c40 => ?_)
        have hPk := PJ_nx (a := a) hv hw h2 hPx
        have st7 : StM I7 how (rowL (nJ how A B x) a (bfB (nJ how A B) K (k0J how A) i)) := ⟨by rw [j7.2 32 (by decide) (by decide)]; exact c3.1, fun j k hk => by rw [j7.1 205 (by decide), j7.1 206 (by decide)]; exact c3.2 j k hk⟩
        have hLr : ∀ y ∈ rowL (nJ how A B x) a (bfB (nJ how A B) K (k0J how A) i), PJ how A B y := fun y hy => by
          rcases rowL_new hy with hy | ⟨b, hb1, hb2⟩
          · exact hall i y hy
          · exact hPn x b y hPx (by omega) hb2
        have hrs : rowL (nJ how A B x) (a + 1) (bfB (nJ how A B) K (k0J how A) i) = pushL (rowL (nJ how A B x) a (bfB (nJ how A B) K (k0J how A) i)) (nxJ how A B x a) := rfl
        have fin : ∀ (j : Nat) I8, SeF I7 I8 → I8 207 = I7 207 → I8 208 = I7 208 → StM I8 how (rowL (nJ how A B x) (a + 1) (bfB (nJ how A B) K (k0J how A) i)) → (rowL (nJ how A B x) (a + 1) (bfB (nJ how A B) K (k0J how A) i))[j]? = some (nxJ how A B x a) → vp_in ((4 * nI i) + nI a) 2048 ∧ ∀ I103 : MI, I103 = sI I8 207 (upd (I8 207) ((4 * nI i) + nI a).toNatClampNeg (nI j)) → ∀ t104 : Int32, t104 = nI a + 1 → f_Model_findSets_L69 (nI how) (nI K) (nI i) (fun (I : MI) (J : MJ) => ∀ t110 : Int32, t110 = nI i + 1 → f_Model_findSets_L35 (nI how) (nI K) (nI M) (fun (I : MI) (J : MJ) => f_Model_findSets_b116 (nI M) Q I J) n t110 I J) n2 t104 I103 J := by
          intro j I8 g1 g2 g3 g4 g5
          rw [l4, pk_mul, nI_add, vpN (by omega), nI_clamp (by omega)]
          refine ⟨by omega, fun I9 e9 t et => ?_⟩
          rw [et, nI_1 a]
          have m7 : ∀ l, I9 207 l = if l = 4 * i + a then nI j else I6 207 l := fun l => by rw [e9, sI_s, upd_at, g2, j7.1 207 (by decide)]
          refine ih2 (a + 1) I9 ⟨by omega, ((c1.tr (SeF.j2 j7)).tr g1).tr ⟨fun j a b c d e => by rw [e9, sI_n _ _ d], fun k _ _ _ => by rw [e9, sI_n _ _ (by decide)]⟩, by rw [e9, sI_n _ _ (by decide), g3, j7.1 208 (by decide)]; exact c2, ⟨by rw [e9, sI_n _ _ (by decide)]; exact g4.1, fun j k hk => by rw [e9, sI_n _ _ (by decide), sI_n _ _ (by decide)]; exact g4.2 j k hk⟩, fun l hl => by rw [m7, if_neg (by omega)]; exact c4 l hl, fun b hb => ?_⟩ (by omega)
          by_cases hba : b = a
          · subst hba
            exact ⟨j, g5, by rw [m7, if_pos rfl]⟩
          · obtain ⟨l, u1, u2⟩ := c5 b (by omega)
            obtain ⟨E, hE⟩ := rowL_mono (nJ how A B x) (show a ≤ a + 1 by omega) (bfB (nJ how A B) K (k0J how A) i)
            exact ⟨l, by rw [hE]; exact pre_get u1, by rw [m7, if_neg (by omega)]; exact u2⟩
        refine m_number h5 st7 hLr hPk (by omega) c39 c40 (rowL_nd a (bfB_nd _ _ _ _)) (fun j hj => ?_) (fun hno I8 g1 g2 g3 g4 => ?_)
        · have hp : rowL (nJ how A B x) (a + 1) (bfB (nJ how A B) K (k0J how A) i) = rowL (nJ how A B x) a (bfB (nJ how A B) K (k0J how A) i) := by
            rw [hrs]; unfold pushL; rw [if_pos (List.mem_of_getElem? hj)]
          exact fin j I7 SeF.rf rfl rfl (by rw [hp]; exact st7) (by rw [hp]; exact hj)
        · have hp : rowL (nJ how A B x) (a + 1) (bfB (nJ how A B) K (k0J how A) i) = rowL (nJ how A B x) a (bfB (nJ how A B) K (k0J how A) i) ++ [nxJ how A B x a] := by
            rw [hrs]; unfold pushL; rw [if_neg hno]
          exact fin _ I8 g1 g2 g3 (by rw [hp]; exact g4) (by rw [hp]; simp)
/-- pairs of states are few -/
theorem LJ_225 {how : Nat} {A B : AM} (hv : VA A) (hw : VA B) (h2 : how = 2 → B = A) (h3 : how < 3) (K i : Nat) : (bfB (nJ how A B) K (k0J how A) i).length ≤ 225 := by
  have hall : ∀ k ∈ bfB (nJ how A B) K (k0J how A) i, PJ how A B k := bfB_inv (PJ_0 hv hw) (fun x a k hx _ hk => by cases hk; exact PJ_nx hv hw h2 hx) i
  have hnd := bfB_nd (nJ how A B) K (k0J how A) i
  generalize bfB (nJ how A B) K (k0J how A) i = L at hall hnd
  have hg : ∀ i, i < L.length → ∃ k, L[i]? = some k ∧ L.getD i 0 = k ∧ k / 16384 ≤ 14 ∧ k % 16384 ≤ 14 := fun i hi => by
    have h := List.getElem?_eq_getElem hi
    have hP := hall _ (List.getElem_mem hi)
    exact ⟨_, h, by simp [List.getD, h], (PJ_f hP (by omega) (by omega)).1, (PJ_b hP h3).1⟩
  refine php 225 L.length (fun i => L.getD i 0 / 16384 * 15 + L.getD i 0 % 16384) (fun i hi => ?_) (fun i j hi hj e => ?_)
  · obtain ⟨k, _, e, b1, b2⟩ := hg i hi
    show L.getD i 0 / 16384 * 15 + L.getD i 0 % 16384 < 225
    rw [e]
    omega
  · obtain ⟨k, hk, e1, b1, b2⟩ := hg i hi
    obtain ⟨k', hk', e2, b3, b4⟩ := hg j hj
    have e' : L.getD i 0 / 16384 * 15 + L.getD i 0 % 16384 = L.getD j 0 / 16384 * 15 + L.getD j 0 % 16384 := e
    rw [e1, e2] at e'
    have ek : k = k' := by omega
    subst ek
    rcases Nat.lt_trichotomy i j with hl | hl | hl
    · have := (List.pairwise_iff_getElem.mp hnd) i j hi hj hl
      rw [List.getElem?_eq_getElem hi] at hk
      rw [List.getElem?_eq_getElem hj] at hk'
      exact absurd ((Option.some.inj hk).trans (Option.some.inj hk').symm) this
    · exact hl
    · have := (List.pairwise_iff_getElem.mp hnd) j i hj hi hl
      rw [List.getElem?_eq_getElem hi] at hk
      rw [List.getElem?_eq_getElem hj] at hk'
      exact absurd ((Option.some.inj hk').trans (Option.some.inj hk).symm) this
theorem LM_LJ {how : Nat} {A B : AM} (hv : VA A) (hw : VA B) (h2 : how = 2 → B = A) : (mM how < (bfB (nJ how A B) (kJ A B) (k0J how A) (mM how)).length ↔ mJ how < (LJ how A B).length) ∧ ((LJ how A B).length ≤ mJ how → bfB (nJ how A B) (kJ A B) (k0J how A) (mM how) = LJ how A B) := by
  unfold LJ mM mJ
  by_cases h3 : how < 3
  · rw [if_pos h3, if_pos h3]
    have a1 := LJ_225 hv hw h2 h3 (kJ A B) 300
    have a2 := LJ_225 hv hw h2 h3 (kJ A B) 225
    exact ⟨⟨fun h => by omega, fun h => by omega⟩, fun _ => bfB_cl a2 300 (by decide)⟩
  · rw [if_neg h3, if_neg h3]
    exact ⟨Iff.rfl, fun _ => rfl⟩
