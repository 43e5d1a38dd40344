/-! the class' groups -/
def GrS (I : MI) (n K : Nat) (to : Nat → Nat → Option Nat) (an : Nat → Nat) : Prop := I 2 0 = nI n ∧ n ≤ 225 ∧ 1 ≤ n ∧ I 2 1 = nI K ∧ K ≤ 4 ∧ (∀ i, i < n → an i ≤ 7 ∧ I 8 i = nI (an i)) ∧ ∀ i a, i < n → a < K → I 7 (i * 4 + a) = enO (to i a) ∧ ∀ j, to i a = some j → j < n
def GOf (I : MI) (n : Nat) (R : Nat → Nat → Prop) : Prop := ∀ i, i < n → I 9 i = nI (cls R i)
def FOf (I : MI) (n : Nat) (R : Nat → Nat → Prop) : Prop := ∀ (u r : Nat), (rpL R n)[u]? = some r → I 11 u = nI r
def Grp (I I' : MI) : Prop := (∀ i, i ≠ 2 → i ≠ 9 → i ≠ 10 → i ≠ 11 → I' i = I i) ∧ ∀ j, j ≠ 2 → I' 2 j = I 2 j
theorem Grp.rf {I : MI} : Grp I I := ⟨fun _ _ _ _ _ => rfl, fun _ _ => rfl⟩
theorem Grp.tr {I I' I'' : MI} (h : Grp I I') (h' : Grp I' I'') : Grp I I'' := ⟨fun i a b c d => (h'.1 i a b c d).trans (h.1 i a b c d), fun j a => (h'.2 j a).trans (h.2 j a)⟩
theorem Grp.gr {I I' : MI} {n K : Nat} {to : Nat → Nat → Option Nat} {an : Nat → Nat} (h : Grp I I') (g : GrS I n K to an) : GrS I' n K to an := by
  unfold GrS at *
  rw [h.2 0 (by decide), h.2 1 (by decide), h.1 8 (by decide) (by decide) (by decide) (by decide), h.1 7 (by decide) (by decide) (by decide) (by decide)]
  exact g
theorem enO_inj {x y : Option Nat} {n : Nat} (hn : n < 2 ^ 31) (hx : ∀ i, x = some i → i < n) (hy : ∀ i, y = some i → i < n) (e : enO x = enO y) : x = y := by
  cases x with
  | none => cases y with
    | none => rfl
    | some y => exact absurd e (lm1' (by have := hy y rfl; omega))
  | some x => cases y with
    | none => exact absurd e (lm1 (by have := hx x rfl; omega))
    | some y =>
      have h1 := hx x rfl
      have h2 := hy y rfl
      have := (nI_eq (by omega) (by omega)).mp e
      rw [this]
theorem cls_31 {R : Nat → Nat → Prop} (h : Eqv R) {i n : Nat} (hi : i < n) (hn : n ≤ 225) : cls R i < 225 := by
  have h1 := cls_lt h hi
  have h2 := cr_le R n
  omega
theorem g_alike {i j n K : Nat} {to : Nat → Nat → Option Nat} {an : Nat → Nat} {R : Nat → Nat → Prop} {I : MI} {J : MJ} {Q : Int32 → MI → MJ → Prop} (g : GrS I n K to an) (hR : Eqv R) (go : GOf I n R) (hi : i < n) (hj : j < n) (q1 : alN to an K R i j → Q 1 I J) (q0 : ¬ alN to an K R i j → Q 0 I J) : f_Chart_areAlike (nI i) (nI j) I J Q := by
  obtain ⟨g1, g2, g0, g3, g4, g5, g6⟩ := g
  unfold f_Chart_areAlike
  rw [vpN (by omega), vpN (by omega), nI_clamp (by omega), nI_clamp (by omega), (g5 i hi).2, (g5 j hj).2]
  refine ⟨by omega, by omega, ?_⟩
  have a7 := (g5 i hi).1
  have b7 := (g5 j hj).1
  by_cases ea : an i = an j
  · rw [if_pos (by rw [ea])]
    refine lp1 (fun f (a : Nat) => f_Chart_areAlike_L19 (nI i) (nI j) _ _ f (nI a) I J) (fun a => a ≤ K ∧ ∀ b, b < a → opR R (to i b) (to j b)) (fun a => 5 - a) ?_ 0 ⟨Nat.zero_le _, fun b hb => absurd hb (Nat.not_lt_zero _)⟩
    rintro f a ⟨b1, b2⟩ ih
    unfold f_Chart_areAlike_L19 f_Chart_areAlike_b87
    rw [g3]
    by_cases eK : a = K
    · rw [if_pos (show nI K ≤ nI a by rw [eK, leNN (by omega) (by omega)]; omega)]
      subst eK
      exact q1 ⟨ea, b2⟩
    · have c1 := g6 i a hi (by omega)
      have c2 := g6 j a hj (by omega)
      rw [if_neg (show ¬ nI K ≤ nI a by rw [leNN (by omega) (by omega)]; omega), l4, pk_mul, pk_mul, nI_add, nI_add, vpN (by omega), vpN (by omega), nI_clamp (by omega), nI_clamp (by omega), c1.1, c2.1, forall_eq, forall_eq]
      refine ⟨by omega, by omega, ?_⟩
      have next : opR R (to i a) (to j a) → ∀ t87 : Int32, t87 = nI a + 1 → f_Chart_areAlike_L19 (nI i) (nI j) (fun (I : MI) (J : MJ) => Q 0 I J) (fun (I : MI) (J : MJ) => Q 1 I J) f t87 I J := fun h t et => by
        rw [et, nI_1]
        refine ih (a + 1) ⟨by omega, fun b hb => ?_⟩ (by omega)
        by_cases hba : b = a
        · rw [hba]; exact h
        · exact b2 b (by omega)
      have no : ¬ opR R (to i a) (to j a) → Q 0 I J := fun h => q0 (fun hh => h (hh.2 a (by omega)))
      by_cases ee : enO (to i a) = enO (to j a)
      · rw [if_pos ee]
        refine next ?_
        rw [enO_inj (n := n) (by omega) c1.2 c2.2 ee]
        exact (opR_e hR).1 _
      · rw [if_neg ee]
        cases hx : to i a with
        | none =>
          rw [hx] at no ee
          rw [if_pos (by decide)]
          cases hy : to j a with
          | none => rw [hy] at ee; exact absurd rfl ee
          | some y => rw [hy] at no; exact no (fun h => h)
        | some x =>
          rw [hx] at no ee c1 next
          have hx' := c1.2 x rfl
          rw [if_neg (show ¬ enO (some x) < 0 from nI0_lt (by omega))]
          cases hy : to j a with
          | none =>
            rw [hy] at no
            rw [if_pos (by decide)]
            exact no (fun h => h)
          | some y =>
            rw [hy] at no ee c2 next
            have hy' := c2.2 y rfl
            have k1 := cls_31 hR hx' g2
            have k2 := cls_31 hR hy' g2
            rw [if_neg (show ¬ enO (some y) < 0 from nI0_lt (by omega)), show enO (some x) = nI x from rfl, show enO (some y) = nI y from rfl, vpN (by omega), vpN (by omega), nI_clamp (by omega), nI_clamp (by omega), go x hx', go y hy']
            refine ⟨by omega, by omega, ?_⟩
            by_cases ec : cls R x = cls R y
            · rw [if_pos (by rw [ec])]
              exact next ((cls_eq hR).mp ec)
            · rw [if_neg (by rw [eqNN (by omega) (by omega)]; exact ec)]
              exact no (fun h => ec ((cls_eq hR).mpr h))
  · rw [if_neg (by rw [eqNN (by omega) (by omega)]; exact ea)]
    exact q0 (fun hh => ea hh.1)
theorem g_like {i n K : Nat} {to : Nat → Nat → Option Nat} {an : Nat → Nat} {R : Nat → Nat → Prop} {I : MI} {J : MJ} {Q : Int32 → MI → MJ → Prop} (g : GrS I n K to an) (hR : Eqv R) (go : GOf I n R) (hi : i < n) (h22 : I 2 2 = nI (cr (alN to an K R) i)) (h14 : cr (alN to an K R) i ≤ 14) (fo : FOf I i (alN to an K R)) (q : Q (nI (cls (alN to an K R) i)) I J) : f_Chart_groupLike (nI i) I J Q := by
  have hA : Eqv (alN to an K R) := alN_e hR
  have hn := g.2.1
  unfold f_Chart_groupLike
  refine lp1 (fun f (u : Nat) => f_Chart_groupLike_L2 (nI i) _ _ f (nI u) I J) (fun u => u ≤ cr (alN to an K R) i ∧ ∀ (v r : Nat), v < u → (rpL (alN to an K R) i)[v]? = some r → ¬ alN to an K R i r) (fun u => 15 - u) ?_ 0 ⟨Nat.zero_le _, fun v r hv => absurd hv (Nat.not_lt_zero _)⟩
  rintro f u ⟨b1, b2⟩ ih
  unfold f_Chart_groupLike_L2
  rw [h22]
  by_cases eu : u = cr (alN to an K R) i
  · rw [if_pos (show nI (cr (alN to an K R) i) ≤ nI u by rw [eu, leNN (by omega) (by omega)]; omega)]
    have hrep : isRp (alN to an K R) i := by
      intro j hj hh
      obtain ⟨k1, k2, k3⟩ := rp_spec hA i
      have hlt : rp (alN to an K R) i < i := by
        by_cases e : rp (alN to an K R) i < i
        · exact e
        · exact absurd hh (k2 j (by omega))
      have := rpL_of hlt (rp_isRp hA i)
      exact b2 _ _ (by rw [eu]; exact cr_lt (rp_isRp hA i) hlt) this (hA.2.1 _ _ k1)
    rw [cls_rep hA hrep] at q
    exact q
  · have hul : u < (rpL (alN to an K R) i).length := by show u < cr (alN to an K R) i; omega
    have hr := List.getElem?_eq_getElem hul
    generalize (rpL (alN to an K R) i)[u] = r at hr
    obtain ⟨r1, r2, r3⟩ := rpL_get hr
    rw [if_neg (show ¬ nI (cr (alN to an K R) i) ≤ nI u by rw [leNN (by omega) (by omega)]; omega), vpN (by omega), nI_clamp (by omega), fo u r hr]
    refine ⟨by omega, g_alike g hR go hi (by omega) (fun h => ?_) (fun h => ?_)⟩
    · rw [if_neg (by decide)]
      have : cls (alN to an K R) i = u := by
        rw [(cls_eq hA).mpr h, cls_rep hA r2, r3]
      rw [this] at q
      exact q
    · rw [if_pos rfl]
      intro t et
      rw [et, nI_1]
      refine ih (u + 1) ⟨by omega, fun v r' hv hv' => ?_⟩ (by omega)
      by_cases hvu : v = u
      · rw [hvu, hr] at hv'; cases hv'; exact h
      · exact b2 v r' (by omega) hv'
theorem g_split {n K : Nat} {to : Nat → Nat → Option Nat} {an : Nat → Nat} {R : Nat → Nat → Prop} {I : MI} {J : MJ} {Q : MI → MJ → Prop} (g : GrS I n K to an) (hR : Eqv R) (go : GOf I n R) (q15 : 14 < cr (alN to an K R) n → ∀ I', Grp I I' → I' 2 2 = nI 15 → Q I' J) (q : cr (alN to an K R) n ≤ 14 → ∀ I', Grp I I' → GOf I' n (alN to an K R) → FOf I' n (alN to an K R) → I' 2 2 = nI (cr (alN to an K R) n) → Q I' J) : f_Chart_splitGroups I J Q := by
  have hA : Eqv (alN to an K R) := alN_e hR
  have hn := g.2.1
  unfold f_Chart_splitGroups
  rw [forall_eq]
  have c0 : Grp I (sI I 2 (upd (I 2) 2 0)) := ⟨fun i a b c d => sI_n _ _ a, fun j hj => by rw [sI_s, pk_un hj]⟩
  refine lp2 (fun f (i : Nat) (I1 : MI) => f_Chart_splitGroups_L7 _ _ f (nI i) I1 J) (fun i I1 => i ≤ n ∧ Grp I I1 ∧ I1 9 = I 9 ∧ I1 2 2 = nI (cr (alN to an K R) i) ∧ cr (alN to an K R) i ≤ 14 ∧ FOf I1 i (alN to an K R) ∧ ∀ j, j < i → I1 10 j = nI (cls (alN to an K R) j)) (fun i _ => n - i) ?_ 0 (sI I 2 (upd (I 2) 2 0)) ⟨Nat.zero_le _, c0, sI_n _ _ (by decide), by rw [sI_s, pk_us]; rfl, by rw [cr_0]; decide, (fun u r h => by simp [rpL] at h), fun j hj => absurd hj (Nat.not_lt_zero _)⟩
  rintro f i I1 ⟨b1, b2, b3, b4, b5, b6, b7⟩ ih
  have g1 := b2.gr g
  unfold f_Chart_splitGroups_L7
  rw [g1.1]
  by_cases ei : i = n
  · rw [if_pos (show nI n ≤ nI i by rw [ei, leNN (by omega) (by omega)]; omega)]
    subst ei
    rw [nI_clamp (by omega), show (0 : Int32).toNatClampNeg = 0 from rfl]
    refine ⟨⟨by decide, by decide, nI0_lt (by omega), by omega, by omega⟩, fun I2 e2 => ?_⟩
    refine q b5 I2 (b2.tr ⟨fun j a b c d => by rw [e2, sI_n _ _ b], fun j hj => by rw [e2, sI_n _ _ (by decide)]⟩) (fun j hj => ?_) (fun u r h => ?_) (by rw [e2, sI_n _ _ (by decide)]; exact b4)
    · rw [e2, sI_s, pk_cpy_in (by omega) (by omega), show 0 + (j - 0) = j by omega]
      exact b7 j hj
    · rw [e2, sI_n _ _ (by decide)]
      exact b6 u r h
  · have hi : i < n := by omega
    have go1 : GOf I1 n R := fun j hj => by rw [b3]; exact go j hj
    have hcl : cls (alN to an K R) i ≤ cr (alN to an K R) i := by
      unfold cls
      exact cr_mono _ (rp_spec hA i).2.2
    rw [if_neg (show ¬ nI n ≤ nI i by rw [leNN (by omega) (by omega)]; omega)]
    refine g_like g1 hR go1 hi b4 b5 b6 ?_
    have hrepI : cls (alN to an K R) i = cr (alN to an K R) i → isRp (alN to an K R) i := by
      intro e
      obtain ⟨k1, k2, k3⟩ := rp_spec hA i
      by_cases hlt : rp (alN to an K R) i < i
      · have := cr_lt (rp_isRp hA i) hlt
        unfold cls at e
        omega
      · have : rp (alN to an K R) i = i := by omega
        rw [← this]
        exact rp_isRp hA i
    by_cases e14 : cls (alN to an K R) i = 14
    · rw [if_pos (show nI (cls (alN to an K R) i) = 14 by rw [e14]; rfl)]
      intro I2 e2
      refine q15 ?_ I2 (b2.tr ⟨fun j a b c d => by rw [e2, sI_n _ _ a], fun j hj => by rw [e2, sI_s, pk_un hj]⟩) (by rw [e2, sI_s, pk_us]; rfl)
      have := cr_lt (hrepI (by omega)) hi
      omega
    · rw [if_neg (show ¬ nI (cls (alN to an K R) i) = 14 by rw [l14, eqNN (by omega) (by decide)]; exact e14), b4]
      unfold f_Chart_splitGroups_b62
      by_cases eg : cls (alN to an K R) i = cr (alN to an K R) i
      · have hrep := hrepI eg
        rw [if_pos (by rw [eg]), vpN (by omega), nI_clamp (by omega)]
        refine ⟨by omega, fun I2 e2 I3 e3 => ?_⟩
        have f2 : I2 2 2 = nI (cr (alN to an K R) i) := by rw [e2, sI_n _ _ (by decide)]; exact b4
        rw [f2, nI_1] at e3
        rw [vpN (by omega), nI_clamp (by omega)]
        refine ⟨by omega, fun I4 e4 t et => ?_⟩
        rw [et, nI_1]
        refine ih (i + 1) I4 ⟨by omega, b2.tr ⟨fun j a b c d => by rw [e4, sI_n _ _ c, e3, sI_n _ _ a, e2, sI_n _ _ d], fun j hj => by rw [e4, sI_n _ _ (by decide), e3, sI_s, pk_un hj, e2, sI_n _ _ (by decide)]⟩, by rw [e4, sI_n _ _ (by decide), e3, sI_n _ _ (by decide), e2, sI_n _ _ (by decide)]; exact b3, by rw [e4, sI_n _ _ (by decide), e3, sI_s, pk_us, cr_p hrep], by rw [cr_p hrep]; omega, fun u r h => ?_, fun j hj => ?_⟩ (by omega)
        · have m : ∀ j, I4 11 j = if j = cr (alN to an K R) i then nI i else I1 11 j := fun j => by rw [e4, sI_n _ _ (by decide), e3, sI_n _ _ (by decide), e2, sI_s, upd_at]
          rw [rpL_p hrep] at h
          rw [m]
          rcases app_get h with ⟨u1, u2⟩ | ⟨u1, u2⟩
          · rw [if_neg (show ¬ u = cr (alN to an K R) i by show ¬ u = (rpL (alN to an K R) i).length; omega)]; exact b6 u r u2
          · rw [if_pos (show u = cr (alN to an K R) i from u1), u2]
        · rw [e4, sI_s, upd_at, e3, sI_n _ _ (by decide), e2, sI_n _ _ (by decide)]
          by_cases hji : j = i
          · rw [if_pos hji, hji]
          · rw [if_neg hji]; exact b7 j (by omega)
      · have hrep : ¬ isRp (alN to an K R) i := fun h => eg (cls_rep hA h)
        rw [if_neg (by rw [eqNN (by omega) (by omega)]; exact eg), vpN (by omega), nI_clamp (by omega)]
        refine ⟨by omega, fun I4 e4 t et => ?_⟩
        rw [et, nI_1]
        refine ih (i + 1) I4 ⟨by omega, b2.tr ⟨fun j a b c d => by rw [e4, sI_n _ _ c], fun j hj => by rw [e4, sI_n _ _ (by decide)]⟩, by rw [e4, sI_n _ _ (by decide)]; exact b3, by rw [e4, sI_n _ _ (by decide), cr_n hrep]; exact b4, by rw [cr_n hrep]; exact b5, fun u r h => ?_, fun j hj => ?_⟩ (by omega)
        · rw [rpL_n hrep] at h
          rw [e4, sI_n _ _ (by decide)]
          exact b6 u r h
        · rw [e4, sI_s, upd_at]
          by_cases hji : j = i
          · rw [if_pos hji, hji]
          · rw [if_neg hji]; exact b7 j (by omega)
