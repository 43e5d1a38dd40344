theorem vp0 {N : Nat} (h : 0 < N) : vp_in 0 N := (vpN (n := 0) (by decide)).mpr h
def fuP (A B : AM) (x y : Option (Nat × Nat)) (v : List Nat) : Prop := anO A (x.bind (fun q => run A q v)) ≠ anO B (y.bind (fun q => run B q v))
noncomputable section
def oL (x : Option Nat) : Int64 := match x with
  | none => 0
  | some n => lN n
def fuN (A B : AM) (x y : Option (Nat × Nat)) : Int64 := oL (leastN (WdP (fuP A B x y)))
end
theorem anO_8 {A : AM} (hv : VA A) {x : Option (Nat × Nat)} (h : okSp A x) : anO A x ≤ 8 := by
  cases x with
  | none => exact Nat.le_refl _
  | some q => have := anS_8 hv (h q rfl).1; show anS A q.1 ≤ 8; omega
def FuJ (J : MJ) (L : List KW) : Prop := ∀ (j : Nat) (x : KW), L[j]? = some x → J 6 j = lN (num x.2)
def ChF (I I' : MI) (J J' : MJ) : Prop := (∀ i, i ≠ 2 → i ≠ 3 → i ≠ 4 → i ≠ 5 → I' i = I i) ∧ ∀ i, i ≠ 6 → J' i = J i
theorem ChF.rf {I : MI} {J : MJ} : ChF I I J J := ⟨fun _ _ _ _ _ => rfl, fun _ _ => rfl⟩
theorem ChF.tr {I I' I'' : MI} {J J' J'' : MJ} (h : ChF I I' J J') (h' : ChF I' I'' J' J'') : ChF I I'' J J'' := ⟨fun i a b c d => (h'.1 i a b c d).trans (h.1 i a b c d), fun i a => (h'.2 i a).trans (h.2 i a)⟩
theorem c_addPair {k : Nat} {w : List Nat} {L : List KW} {v : Int64} {I : MI} {J : MJ} {Q : MI → MJ → Prop} (hC : ChS I (L.map (fun x => x.1))) (hJ : FuJ J L) (hk : k < 2 ^ 31) (hv : v = lN (num w)) (hr : k ∉ L.map (fun x => x.1) → L.length < 225) (q : ∀ I' J', ChS I' ((pushW L k w).map (fun x => x.1)) → FuJ J' (pushW L k w) → ChF I I' J J' → Q I' J') : f_Chart_addPair (nI k) v I J Q := by
  unfold f_Chart_addPair
  have hl : L.length ≤ 225 := by have := hC.2.1; simpa using this
  rw [forall_eq, hC.1, l225]
  refine c_node hC hk (Nat.le_refl _) (fun i hi => ?_) (fun h1 h2 => ?_) (fun hno _ I1 hC1 e1 e2 => ?_)
  · have hlt := (List.getElem?_eq_some_iff.mp hi).1
    have hm : k ∈ L.map (fun x => x.1) := List.mem_of_getElem? hi
    simp only [List.length_map] at hlt
    rw [if_pos (show nI i < nI (L.map (fun x => x.1)).length by rw [List.length_map, ltNN (by omega) (by omega)]; exact hlt)]
    have hp : pushW L k w = L := by unfold pushW; rw [if_pos hm]
    exact q I J (by rw [hp]; exact hC) (by rw [hp]; exact hJ) ChF.rf
  · have := hr h1
    simp only [List.length_map] at h2
    omega
  · have hlt := hr hno
    have hp : pushW L k w = L ++ [(k, w)] := by unfold pushW; rw [if_neg hno]
    rw [List.length_map, if_neg (show ¬ nI L.length < nI L.length by rw [ltNN (by omega) (by omega)]; omega), vpN (by omega), nI_clamp (by omega)]
    refine ⟨hlt, fun J1 e3 => q I1 J1 ?_ (fun j x hx => ?_) ⟨e1, fun i hi => by rw [e3, sJ_at, if_neg hi]⟩⟩
    · rw [hp, List.map_append]; exact hC1
    · rw [hp] at hx
      rw [e3, sJ_at, if_pos rfl, updL_at]
      rcases app_get hx with ⟨u1, u2⟩ | ⟨u1, u2⟩
      · rw [if_neg (by omega)]; exact hJ j x u2
      · rw [if_pos u1, u2]; exact hv
theorem PPk.b {A B : AM} (hv : VA A) (hw : VA B) {PA PB : Nat × Nat → Prop} {iA iB : Nat × Nat → Nat} (hA : SpS A PA iA) (hB : SpS B PB iB) {k : Nat} (h : PPk PA PB k) : k < 57 * 57 := by
  obtain ⟨x, y, rfl, hx, hy⟩ := h
  have h1 := pr_57 hv (hA.ok hx)
  have h2 := pr_57 hw (hB.ok hy)
  unfold cdP
  omega
theorem PPk.ok {A B : AM} (hv : VA A) (hw : VA B) {PA PB : Nat × Nat → Prop} {iA iB : Nat × Nat → Nat} (hA : SpS A PA iA) (hB : SpS B PB iB) {k : Nat} (h : PPk PA PB k) : okSp A (dcP (k / 57)) ∧ okSp B (dcP (k % 57)) := by
  obtain ⟨x, y, rfl, hx, hy⟩ := h
  obtain ⟨d1, d2⟩ := cd_dc hv hw (hA.ok hx) (hB.ok hy)
  rw [d1, d2]
  exact ⟨hA.ok hx, hB.ok hy⟩
theorem c_unlike {o1 o2 : Nat} {A B : AM} {x y : Option (Nat × Nat)} {PA PB : Nat × Nat → Prop} {iA iB : Nat × Nat → Nat} {I : MI} {J : MJ} {Q : Int64 → MI → MJ → Prop} (h1 : 12 ≤ o1) (h2 : 12 ≤ o2) (hA : RepC I o1 A) (hB : RepC I o2 B) (hv : VA A) (hw : VA B) (sA : SpS A PA iA) (sB : SpS B PB iB) (hx : ∀ q, x = some q → PA q) (hy : ∀ q, y = some q → PB q) (hH : HaS I) (q : ∀ I' J', (∀ i, (i < 2 ∨ 12 ≤ i) → I' i = I i) → (∀ i, i ≠ 6 → J' i = J i) → HaS I' → Q (fuN A B x y) I' J') : f_Chart_firstUnlike o1 (enP x) o2 (enP y) I J Q := by
  unfold f_Chart_firstUnlike
  refine c_wipe hH (fun I1 C1 e1 e1' => ?_)
  have hAk := hv.2.2.1
  have hBk := hw.2.2.1
  obtain ⟨K, hK, hKA, hKB, hK4⟩ : ∃ K, (if nI A.2.1 < nI B.2.1 then nI B.2.1 else nI A.2.1) = nI K ∧ A.2.1 ≤ K ∧ B.2.1 ≤ K ∧ K ≤ 4 := by
    by_cases h : A.2.1 < B.2.1
    · exact ⟨B.2.1, if_pos (by rw [ltNN (by omega) (by omega)]; exact h), by omega, by omega, by omega⟩
    · exact ⟨A.2.1, if_neg (by rw [ltNN (by omega) (by omega)]; exact h), by omega, by omega, by omega⟩
  rw [forall_eq, e1 o1 (by omega) (by omega), e1 o2 (by omega) (by omega), hA.2.2.1, hB.2.2.1, hK, c_pairKey]
  have hP0 : PPk PA PB (cdP x y) := ⟨x, y, rfl, hx, hy⟩
  have hPn : ∀ k a j, PPk PA PB k → a < K → nxP A B k a = some j → PPk PA PB j := fun k a j hk _ h => PP_nx hv hw sA sB hk h
  have hall : ∀ i k, k ∈ bfB (nxP A B) K (cdP x y) i → PPk PA PB k := bfB_inv hP0 hPn
  have hroom : ∀ i, (bfB (nxP A B) K (cdP x y) i).length ≤ 225 := fun i => pairs_225 hv hw sA sB (bfB_nd _ _ _ _) (hall i)
  rw [l225]
  refine c_node C1 (by have := hP0.b hv hw sA sB; omega) (Nat.le_refl _) (fun i hi => by simp at hi) (fun _ hl => absurd hl (by simp)) (fun _ _ I2 C2 e2 e2' => ?_)
  refine ⟨vp0 (by decide), ?_⟩
  rw [forall_eq]
  have c2 : ChF I I2 J (sJ J 6 (vp_updL (J 6) (0 : Int32).toNatClampNeg 1)) := ⟨fun i a b c d => by rw [e2 i a b c d, e1 i a d], fun i hi => by rw [sJ_at, if_neg hi]⟩
  refine lp3 (fun n (i : Nat) (I3 : MI) (J3 : MJ) => f_Chart_firstUnlike_L41 o1 o2 (nI K) _ _ n (nI i) I3 J3) (fun i I3 J3 => i ≤ 225 ∧ i ≤ (bfB (nxP A B) K (cdP x y) i).length ∧ ChS I3 (bfB (nxP A B) K (cdP x y) i) ∧ FuJ J3 (bfW (nxP A B) K (cdP x y) i) ∧ ChF I I3 J J3 ∧ ∀ (j : Nat) (z : KW), j < i → (bfW (nxP A B) K (cdP x y) i)[j]? = some z → ¬ badP A B z.1) (fun i _ _ => 226 - i) ?_ 0 I2 _ ⟨Nat.zero_le _, Nat.zero_le _, C2, (fun j z hz => ?_), c2, fun j z hj => absurd hj (Nat.not_lt_zero _)⟩
  rotate_left
  · cases j with
    | zero =>
      simp [bfW] at hz
      rw [sJ_at, if_pos rfl, updL_at, if_pos (by decide), ← hz]
      rfl
    | succ j => simp [bfW] at hz
  rintro n i I3 J3 ⟨b0, b1, b2, b3, b4, b5⟩ ih
  unfold f_Chart_firstUnlike_L41
  rw [b2.1]
  have hri := hroom i
  have fin0 : ∀ i, i ≠ 2 → i ≠ 3 → i ≠ 4 → i ≠ 5 → I3 i = I i := b4.1
  have hA3 : RepC I3 o1 A := hA.kp (fun i a b => fin0 i (by omega) (by omega) (by omega) (by omega))
  have hB3 : RepC I3 o2 B := hB.kp (fun i a b => fin0 i (by omega) (by omega) (by omega) (by omega))
  have hcl : (bfB (nxP A B) K (cdP x y) 225).length ≤ 225 := hroom 225
  by_cases ei : (bfB (nxP A B) K (cdP x y) i).length ≤ i
  · rw [if_pos (by rw [leNN (by omega) (by omega)]; exact ei)]
    have hW := bfW_cl ei 225 b0
    have hnone : leastN (WdP (fuP A B x y)) = none := by
      refine bf_none hK4 hcl (P_iff hv hw (sA.ok hx) (sB.ok hy) hKA hKB) (fun j z hz => ?_)
      rw [hW] at hz
      have := (List.getElem?_eq_some_iff.mp hz).1
      rw [bfW_l] at this
      exact b5 j z (by omega) hz
    have := q I3 J3 (fun i hi => fin0 i (by omega) (by omega) (by omega) (by omega)) b4.2 b2.has
    unfold fuN at this
    rw [hnone] at this
    exact this
  · have hil : i < (bfW (nxP A B) K (cdP x y) i).length := by rw [bfW_l]; omega
    have hz := List.getElem?_eq_getElem hil
    generalize (bfW (nxP A B) K (cdP x y) i)[i] = z at hz
    have hzk : (bfB (nxP A B) K (cdP x y) i)[i]? = some z.1 := by rw [← bfW_k, List.getElem?_map, hz]; rfl
    have hPz := hall i z.1 (List.mem_of_getElem? hzk)
    have hz57 := hPz.b hv hw sA sB
    obtain ⟨okx, oky⟩ := hPz.ok hv hw sA sB
    obtain ⟨d1, d2⟩ := dc_en hz57
    rw [if_neg (by rw [leNN (by omega) (by omega)]; exact ei), l225, if_neg (show ¬ nI 225 ≤ nI i by rw [leNN (by decide) (by omega)]; omega), vpN (by omega), nI_clamp (by omega), (b2.2.2.2.1 i z.1 hzk).2, d1, d2, forall_eq, forall_eq, s_ansAt hA3 hv okx, s_ansAt hB3 hw oky]
    refine ⟨by omega, by omega, ?_⟩
    have a8 := anO_8 hv okx
    have b8 := anO_8 hw oky
    by_cases eb : anO A (dcP (z.1 / 57)) = anO B (dcP (z.1 % 57))
    · rw [if_pos (by rw [eb])]
      have hst := bfW_step hz
      refine lp3 (fun n (a : Nat) (I4 : MI) (J4 : MJ) => f_Chart_firstUnlike_L112 o1 o2 (nI K) (nI i) (enP (dcP (z.1 / 57))) (enP (dcP (z.1 % 57))) _ n (nI a) I4 J4) (fun a I4 J4 => a ≤ K ∧ ChS I4 ((rowW (nxP A B z.1) z.2 a (bfW (nxP A B) K (cdP x y) i)).map (fun x => x.1)) ∧ FuJ J4 (rowW (nxP A B z.1) z.2 a (bfW (nxP A B) K (cdP x y) i)) ∧ ChF I I4 J J4) (fun a _ _ => 5 - a) ?_ 0 I3 J3 ⟨Nat.zero_le _, by show ChS I3 ((bfW _ _ _ _).map _); rw [bfW_k]; exact b2, b3, b4⟩
      rintro n2 a I4 J4 ⟨c0, c1, c2, c3⟩ ih2
      unfold f_Chart_firstUnlike_L112
      by_cases ea : a = K
      · subst ea
        rw [if_pos (by rw [leNN (by omega) (by omega)]; exact Nat.le_refl _), nI_1, forall_eq]
        rw [← hst] at c1 c2
        rw [bfW_k] at c1
        have hri1 := hroom (i + 1)
        have hmono := bfB_len (nxP A B) a (cdP x y) (show i ≤ i + 1 by omega)
        refine ih (i + 1) I4 J4 ⟨by omega, by omega, c1, c2, c3, fun j u hj hu => ?_⟩ (by omega)
        obtain ⟨E, hE⟩ := bfW_mono (nxP A B) a (cdP x y) (show i ≤ i + 1 by omega)
        rw [hE] at hu
        by_cases hji : j = i
        · subst hji
          rw [pre_get hz] at hu
          cases hu
          unfold badP
          rw [eb]
          exact fun h => h rfl
        · rw [List.getElem?_append_left (by omega)] at hu
          exact b5 j u (by omega) hu
      · have haK : a < K := by omega
        have hA4 : RepC I4 o1 A := hA.kp (fun i a b => c3.1 i (by omega) (by omega) (by omega) (by omega))
        have hB4 : RepC I4 o2 B := hB.kp (fun i a b => c3.1 i (by omega) (by omega) (by omega) (by omega))
        rw [if_neg (by rw [leNN (by omega) (by omega)]; omega), s_nextO hA4 hv okx (by omega), s_nextO hB4 hw oky (by omega), c_pairKey, vpN (by omega), nI_clamp (by omega)]
        refine ⟨by omega, ?_⟩
        have hnx : nxP A B z.1 a = some (cdP ((dcP (z.1 / 57)).bind (fun q => dl A q a)) ((dcP (z.1 % 57)).bind (fun q => dl B q a))) := rfl
        have hPk := hPn z.1 a _ hPz haK hnx
        generalize cdP ((dcP (z.1 / 57)).bind (fun q => dl A q a)) ((dcP (z.1 % 57)).bind (fun q => dl B q a)) = k at hnx hPk
        obtain ⟨E, hE⟩ := rowW_p (nxP A B z.1) z.2 (Nat.zero_le a) (bfW (nxP A B) K (cdP x y) i)
        have hJz : J4 6 i = lN (num z.2) := c2 i z (by rw [hE]; exact pre_get hz)
        have hrs : rowW (nxP A B z.1) z.2 (a + 1) (bfW (nxP A B) K (cdP x y) i) = pushW (rowW (nxP A B z.1) z.2 a (bfW (nxP A B) K (cdP x y) i)) k (z.2 ++ [a]) := by
          conv => lhs; unfold rowW
          rw [hnx]
        refine c_addPair (w := z.2 ++ [a]) c1 c2 (by have := hPk.b hv hw sA sB; omega) (by rw [hJz, nI_l (by omega), show (4 : Int64) = lN 4 from rfl, lN_mul, lN_add, ← num_app]) (fun hno => ?_) (fun I5 J5 k1 k2 k3 => ?_)
        · have hnd : (rowL (nxP A B z.1) a (bfB (nxP A B) K (cdP x y) i)).Nodup := rowL_nd a (bfB_nd _ _ _ _)
          rw [rowW_k, bfW_k] at hno
          have hnd2 := pushL_nd (k := k) hnd
          have h225 := pairs_225 hv hw sA sB hnd2 (fun j hj => by
            rcases pushL_new hj with hj | hj
            · rcases rowL_new hj with hj | ⟨b, hb1, hb2⟩
              · exact hall i j hj
              · exact hPn z.1 b j hPz (by omega) hb2
            · rw [hj]; exact hPk)
          unfold pushL at h225
          rw [if_neg hno, List.length_append] at h225
          have hlen : (rowW (nxP A B z.1) z.2 a (bfW (nxP A B) K (cdP x y) i)).length = (rowL (nxP A B z.1) a (bfB (nxP A B) K (cdP x y) i)).length := by rw [← bfW_k, ← rowW_k (wx := z.2), List.length_map]
          simp only [List.length_cons, List.length_nil] at h225
          omega
        · rw [nI_1, forall_eq]
          exact ih2 (a + 1) I5 J5 ⟨by omega, by rw [hrs]; exact k1, by rw [hrs]; exact k2, c3.tr k3⟩ (by omega)
    · rw [if_neg (by rw [eqNN (by omega) (by omega)]; exact eb), b3 i z hz]
      refine ⟨by omega, ?_⟩
      obtain ⟨E, hE⟩ := bfW_mono (nxP A B) K (cdP x y) b0
      have hsome : leastN (WdP (fuP A B x y)) = some (num z.2) := by
        refine bf_some hK4 hcl (P_iff hv hw (sA.ok hx) (sB.ok hy) hKA hKB) (i := i) (x := z) (by rw [hE]; exact pre_get hz) (show badP A B z.1 from eb) (fun j y hj hy => ?_)
        rw [hE, List.getElem?_append_left (by omega)] at hy
        exact b5 j y hj hy
      have := q I3 J3 (fun i hi => fin0 i (by omega) (by omega) (by omega) (by omega)) b4.2 b2.has
      unfold fuN at this
      rw [hsome] at this
      exact this
