/-! the reference's LEAST machine -/
def LM (t : Nat) (I I' : MI) (J J' : MJ) : Prop := (∀ i, (i < 184 ∨ 190 < i) → i ≠ 195 → i ≠ 196 → I' i = I i) ∧ (∀ q, q < 20 → q ≠ t → MEq I I' q) ∧ ∀ i, i ≠ 197 → J' i = J i
theorem LM.rf {t : Nat} {I : MI} {J : MJ} : LM t I I J J := ⟨fun _ _ _ _ => rfl, fun _ _ _ => MEq.rf, fun _ _ => rfl⟩
theorem LM.tr {t : Nat} {I I' I'' : MI} {J J' J'' : MJ} (h : LM t I I' J J') (h' : LM t I' I'' J' J'') : LM t I I'' J J'' := ⟨fun i a b c => (h'.1 i a b c).trans (h.1 i a b c), fun q a b => (h.2.1 q a b).tr (h'.2.1 q a b), fun i a => (h'.2.2 i a).trans (h.2.2 i a)⟩
theorem LM.ms {t : Nat} {I I' : MI} {J J' : MJ} (ht : 18 ≤ t) (h : LM t I I' J J') : MSc I I' J J' := ⟨fun k _ => by rw [h.1 177 (by omega) (by omega) (by omega)], fun i hi => h.1 i (by omega) (by omega) (by omega), fun q hq => h.2.1 q (by omega) (by omega), ⟨by rw [h.2.2 177 (by decide)], h.2.2 180 (by decide), h.2.2 215 (by decide), h.2.2 216 (by decide), h.2.2 217 (by decide)⟩, ⟨fun i hi => h.1 i (by omega) (by omega) (by omega), fun i hi => h.2.2 i (by omega)⟩⟩
/-- a cell that is none of a machine's -/
theorem MEq.oth {I I' : MI} {q : Nat} (h4 : I' 184 q = I 184 q) (h5 : I' 185 q = I 185 q) (h6 : I' 186 q = I 186 q) (h7 : ∀ j, 14 * q ≤ j → j < 14 * q + 14 → I' 187 j = I 187 j ∧ I' 188 j = I 188 j) (h9 : ∀ j, 56 * q ≤ j → j < 56 * q + 56 → I' 189 j = I 189 j ∧ I' 190 j = I 190 j) : MEq I I' q := ⟨h4, h5, h6, fun s hs => h7 _ (by omega) (by omega), fun s a hs ha => h9 _ (by omega) (by omega)⟩
noncomputable section
abbrev toA (A : AM) : Nat → Nat → Option Nat := toL (nxM A) (ndM A)
abbrev anA (A : AM) : Nat → Nat := anL (anM A) (ndM A)
abbrev eqA (A : AM) : Nat → Nat → Prop := eqN (toA A) (anA A) A.2.1
def tkG (n : Nat) (to : Nat → Nat → Option Nat) (R : Nat → Nat → Prop) (u a : Nat) : Option Nat := ((rpL R n)[u]?).bind (fun r => (to r a).map (cls R))
end
theorem tkG_of {n : Nat} {to : Nat → Nat → Option Nat} {R : Nat → Nat → Prop} {u r a : Nat} (h : (rpL R n)[u]? = some r) : tkG n to R u a = (to r a).map (cls R) := by
  unfold tkG
  rw [h]
  rfl
theorem eq_map {n K : Nat} {to : Nat → Nat → Option Nat} {an : Nat → Nat} (h7 : ∀ i, i < n → an i ≤ 7) (hc : ∀ i a j, i < n → a < K → to i a = some j → j < n) {i j a : Nat} (hi : i < n) (hj : j < n) (ha : a < K) (h : eqN to an K i j) : (to i a).map (cls (eqN to an K)) = (to j a).map (cls (eqN to an K)) := by
  have := (eqN_al h7 hc hi hj h).2 a ha
  cases hx : to i a with
  | none => cases hy : to j a with
    | none => rfl
    | some y => rw [hx, hy] at this; exact this.elim
  | some x => cases hy : to j a with
    | none => rw [hx, hy] at this; exact this.elim
    | some y =>
      rw [hx, hy] at this
      simp only [Option.map_some]
      rw [(cls_eq (eqN_e to an K)).mpr this]
theorem ks_same {n K : Nat} {to : Nat → Nat → Option Nat} {an : Nat → Nat} (hK : K ≤ 4) (h7 : ∀ i, i < n → an i ≤ 7) (hc : ∀ i a j, i < n → a < K → to i a = some j → j < n) (hno : ∀ i a, i < n → K ≤ a → a < 4 → to i a = none) {k : Nat} (h : isKs (cr (eqN to an K) n) 4 (tkG n to (eqN to an K)) k) : isKs n K to k := by
  have hE := eqN_e to an K
  refine ⟨h.1, fun i a hi ha hn => ?_, ?_⟩
  · obtain ⟨r1, r2, r3⟩ := rp_spec hE i
    have hg := rpL_of (n := n) (show rp (eqN to an K) i < n by omega) (rp_isRp hE i)
    refine h.2.1 (cr (eqN to an K) (rp (eqN to an K) i)) a (cr_lt (rp_isRp hE i) (by omega)) (by omega) ?_
    rw [tkG_of hg, eq_map h7 hc (by omega) hi ha r1]
    cases ht : to i a with
    | none => exact absurd ht hn
    | some j => simp
  · rcases h.2.2 with e | ⟨u, hu, h4, hn⟩
    · exact Or.inl e
    · refine Or.inr ?_
      have hul : u < (rpL (eqN to an K) n).length := hu
      have hr := List.getElem?_eq_getElem hul
      generalize (rpL (eqN to an K) n)[u] = r at hr
      obtain ⟨r1, r2, r3⟩ := rpL_get hr
      rw [tkG_of hr] at hn
      have hto : to r (k - 1) ≠ none := fun e => by rw [e] at hn; exact hn rfl
      refine ⟨r, r1, ?_, hto⟩
      by_cases hk : k - 1 < K
      · exact hk
      · exact absurd (hno r (k - 1) r1 (by omega) h4) hto
theorem m_least {m t : Nat} {A : AM} {I : MI} {J : MJ} {Q : Int32 → MI → MJ → Prop} (hm : m < 18) (ht : 18 ≤ t) (ht2 : t < 20) (hA : RepM I m A) (hv : VA A) (q0 : grt A → ∀ I' J', MSc I I' J J' → (∀ q, q < 20 → MEq I I' q) → Q 0 I' J') (q1 : ¬ grt A → ∀ I' J', MSc I I' J J' → (∀ q, q < 20 → q ≠ t → MEq I I' q) → RepM I' t (leastA A) → (∀ (u r : Nat) (x : KW), (rpL (eqA A) (ndM A).length)[u]? = some r → (bfW (nxM A) A.2.1 0 14)[r]? = some x → J' 197 (14 * t + u) = lN (num x.2)) → Q 1 I' J') : f_Model_findLeast (nI m) (nI t) I J Q := by
  have hK : A.2.1 ≤ 4 := hv.2.2.1
  have hn14 := hv.2.2.2.2.1
  unfold f_Model_findLeast
  refine m_pairs (by omega) hA hv (fun hg I1 J1 p1 => ?_) (fun hg I1 J1 p1 pm pt => ?_)
  · rw [if_pos rfl]
    exact q0 hg I1 J1 p1.ms (fun q _ => MEq.of (fun i a b => p1.1 i (by omega) (by omega) (by omega) (by omega)))
  rw [if_neg (by decide)]
  have hA1 := p1.rep hA
  have hlen : (bfW (nxM A) A.2.1 0 14).length = (ndM A).length := bfW_l _ _ _ _
  have hl14 : (ndM A).length ≤ 14 := by unfold grt at hg; omega
  have hl1 := ndM_1 A
  have hnd : (ndM A).Nodup := bfB_nd _ _ _ _
  have hkey : ∀ (i : Nat) (x : KW), (bfW (nxM A) A.2.1 0 14)[i]? = some x → (ndM A)[i]? = some x.1 := fun i x hx => by
    show (bfB (nxM A) A.2.1 0 14)[i]? = some x.1
    rw [← bfW_k, List.getElem?_map, hx]
    rfl
  have hwit : ∀ i, i < (ndM A).length → ∃ x : KW, (bfW (nxM A) A.2.1 0 14)[i]? = some x := fun i hi => ⟨_, List.getElem?_eq_getElem (by omega)⟩
  have gr : GrM I1 m (ndM A).length A.2.1 (toA A) (anA A) := by
    refine ⟨by rw [pm.1, hlen], hl14, hK, fun i hi => ?_, fun i a hi ha => ?_⟩
    · obtain ⟨x, hx⟩ := hwit i hi
      have hk := hkey i x hx
      have hx4 := ndM_P hv (List.mem_of_getElem? hk)
      have hs : x.1 / 4 < aN A := by omega
      obtain ⟨z, hz⟩ := VA.get hs
      show anL (anM A) (ndM A) i ≤ 7 ∧ _
      refine ⟨by rw [anL_of hk]; exact anM_7 hv (List.mem_of_getElem? hk), x.1 / 4, by omega, (pm.2 i x hx).1, ?_⟩
      rw [show anA A i = anS A (x.1 / 4) from anL_of hk, anS_of hz]
      exact (hA1.2.2.2 _ z hz).1
    · obtain ⟨x, hx⟩ := hwit i hi
      have hk := hkey i x hx
      obtain ⟨t1, t2⟩ := pt i x (by omega) hx a ha
      refine ⟨?_, fun j hj => toL_lt hj, fun hKa => toL_none hk (nxM_K hv x.1 a hKa)⟩
      cases hnx : nxM A x.1 a with
      | none => rw [t1 hnx, show toA A i a = none from toL_none hk hnx]; rfl
      | some k =>
        obtain ⟨j, y, j1, j2, j3⟩ := t2 k hnx
        have hj := hkey j y j1
        rw [j2] at hj
        rw [j3, show toA A i a = some j from toL_some hnd hk hnx hj]
        rfl
  have h7 : ∀ i, i < (ndM A).length → anA A i ≤ 7 := fun i hi => (gr.2.2.2.1 i hi).1
  have hc : ∀ i a j, i < (ndM A).length → a < A.2.1 → toA A i a = some j → j < (ndM A).length := fun i a j _ _ h => toL_lt h
  have hE : Eqv (eqA A) := eqN_e _ _ _
  have hcr : cr (eqA A) (ndM A).length ≤ (ndM A).length := cr_le _ _
  refine m_unlike (by omega) gr (fun I2 U f2 hU hUE => ?_)
  rw [show (0 : Int32) = nI 0 from rfl, l4]
  refine clearK ht2 (fun I3 c1 c2 c3 c4 c5 c6 c7 => ?_)
  have lm3 : LM t I1 I3 J1 J1 := by
    refine ⟨fun i a b c => by rw [c1 i a, f2 i b], fun q hq hqt => MEq.oth ?_ ?_ ?_ (fun j u v => ⟨?_, ?_⟩) (fun j u v => ⟨?_, ?_⟩), fun _ _ => rfl⟩
    · rw [(c3 q hqt).1, f2 184 (by decide)]
    · rw [(c3 q hqt).2.1, f2 185 (by decide)]
    · rw [(c3 q hqt).2.2, f2 186 (by decide)]
    · rw [c4, if_neg (by omega), f2 187 (by decide)]
    · rw [c5, if_neg (by omega), f2 188 (by decide)]
    · rw [c6, if_neg (by omega), f2 189 (by decide)]
    · rw [c7, if_neg (by omega), f2 190 (by decide)]
  have lmMS : ∀ {I' J'}, LM t I1 I' J1 J' → MSc I I' J J' ∧ ∀ q, q < 20 → q ≠ t → MEq I I' q := fun h => ⟨p1.ms.tr (h.ms ht), fun q a b => (MEq.of (fun i u v => p1.1 i (by omega) (by omega) (by omega) (by omega))).tr (h.2.1 q a b)⟩
  have h185 : I3 185 t = nI 0 := c2.2.1
  have h186 : I3 186 t = nI 4 := c2.2.2
  rw [nI_clamp (show t < 2 ^ 31 by omega), vpN (show t < 2 ^ 31 by omega)]
  -- classes
  refine lp4 (fun f (c : Nat) (i : Nat) (I4 : MI) (J4 : MJ) => f_Model_findLeast_L28 (nI m) (nI t) _ f (nI c) (nI i) I4 J4) (fun c i I4 J4 => i ≤ (ndM A).length ∧ c = cr (eqA A) i ∧ LM t I1 I4 J1 J4 ∧ I4 195 = I2 195 ∧ (∀ j, j < i → I4 196 j = nI (cls (eqA A) j)) ∧ (∀ (u r : Nat), (rpL (eqA A) i)[u]? = some r → I4 187 (14 * t + u) = nI (anA A r) ∧ J4 197 (14 * t + u) = J1 193 r) ∧ I4 186 t = nI 4) (fun _ i _ _ => (ndM A).length - i) ?_ 0 0 I3 J1 ⟨Nat.zero_le _, rfl, lm3, by rw [c1 195 (by omega)], (fun j hj => absurd hj (Nat.not_lt_zero _)), (fun u r h => by simp [rpL] at h), h186⟩
  rintro f c i I4 J4 ⟨b1, b2, b3, b4, b5, b6, b7⟩ ih
  subst b2
  have h16 : I4 177 16 = nI (ndM A).length := by rw [b3.1 177 (by omega) (by omega) (by omega)]; exact gr.1
  unfold f_Model_findLeast_L28
  rw [h16]
  by_cases ei : i = (ndM A).length
  · rw [if_pos (show nI (ndM A).length ≤ nI i by rw [ei, leNN (by omega) (by omega)]; omega)]
    refine ⟨ht2, fun I5 e5 => ?_⟩
    have lm5 : LM t I1 I5 J1 J4 := b3.tr ⟨fun j a b c => by rw [e5, sI_n _ _ (by omega)], fun q hq hqt => MEq.oth (by rw [e5, sI_n _ _ (by decide)]) (by rw [e5, sI_s, pk_un hqt]) (by rw [e5, sI_n _ _ (by decide)]) (fun j _ _ => by rw [e5, sI_n _ _ (by decide), sI_n _ _ (by decide)]; exact ⟨rfl, rfl⟩) (fun j _ _ => by rw [e5, sI_n _ _ (by decide), sI_n _ _ (by decide)]; exact ⟨rfl, rfl⟩), fun _ _ => rfl⟩
    rw [ei] at b5 b6 e5
    -- takes
    refine lp2 (fun f (i : Nat) (I6 : MI) => f_Model_findLeast_L174 (nI t) _ f (nI i) I6 J4) (fun i I6 => i ≤ (ndM A).length ∧ LM t I1 I6 J1 J4 ∧ (∀ j, j ≠ 189 → I6 j = I5 j) ∧ ∀ i' a, i' < i → a < 4 → I6 189 (4 * (14 * t + cls (eqA A) i') + a) = enO ((toA A i' a).map (cls (eqA A)))) (fun i _ => (ndM A).length - i) ?_ 0 I5 ⟨Nat.zero_le _, lm5, fun _ _ => rfl, fun i' a hi' => absurd hi' (Nat.not_lt_zero _)⟩
    rintro f2' x I6 ⟨d1, d2, d3, d4⟩ ih2
    have k196 : ∀ j, j < (ndM A).length → I6 196 j = nI (cls (eqA A) j) := fun j hj => by rw [d3 196 (by decide), e5, sI_n _ _ (by decide)]; exact b5 j hj
    have hcl : ∀ j, j < (ndM A).length → cls (eqA A) j < 14 := fun j hj => by have := cls_lt hE hj; omega
    unfold f_Model_findLeast_L174
    rw [d2.1 177 (by omega) (by omega) (by omega), gr.1]
    by_cases ex : x = (ndM A).length
    · rw [if_pos (show nI (ndM A).length ≤ nI x by rw [ex, leNN (by omega) (by omega)]; omega)]
      rw [ex] at d4
      have hrow : ∀ u a, u < cr (eqA A) (ndM A).length → a < 4 → I6 189 (4 * (14 * t + u) + a) = enO (tkG (ndM A).length (toA A) (eqA A) u a) ∧ ∀ j, tkG (ndM A).length (toA A) (eqA A) u a = some j → j < 14 := by
        intro u a hu ha
        have hul : u < (rpL (eqA A) (ndM A).length).length := hu
        have hr := List.getElem?_eq_getElem hul
        generalize (rpL (eqA A) (ndM A).length)[u] = r at hr
        obtain ⟨r1, r2, r3⟩ := rpL_get hr
        have := d4 r a r1 ha
        rw [cls_rep hE r2, r3] at this
        rw [tkG_of hr]
        refine ⟨this, fun j hj => ?_⟩
        cases hto : toA A r a with
        | none => rw [hto] at hj; cases hj
        | some z => rw [hto] at hj; cases hj; exact hcl z (toL_lt hto)
      have m185 : I6 185 t = nI (cr (eqA A) (ndM A).length) := by rw [d3 185 (by decide), e5, sI_s, pk_us]
      refine m_trim ht2 m185 (by omega) hrow (fun k I7 hks hk4 e7 => ?_)
      have hks2 := ks_same hK h7 hc (fun i a hi hKa ha => (gr.2.2.2.2 i a hi ha).2.2 hKa) hks
      have hkk : k = ksN (ndM A).length A.2.1 (toL (nxM A) (ndM A)) := isKs_u hks2 (ksN_s _ _ _)
      have hkK : k ≤ A.2.1 := isKs_4 hks2 hv.2.1
      have f7 : ∀ j, j ≠ 186 → I7 j = I6 j := fun j hj => by rw [e7, sI_n _ _ hj]
      have hfull := qsG_full (K := A.2.1) (k := k) hE h7 hkK hc
      refine m_name (n := cr (eqA A) (ndM A).length) (k := k) (qs := qsG (ndM A).length (toA A) (anA A) (eqA A) k) ht2 (by rw [qsG_len, f7 185 (by decide)]; exact m185) (by rw [qsG_len]; omega) (by rw [e7, sI_s, pk_us]) hk4 (by omega) (fun u z r hz hzr => ?_) hfull (fun I8 g1 g2 g3 g4 => ?_)
      · obtain ⟨r', h1', rfl⟩ := qsG_get hz
        cases hzr
        have hu : u < cr (eqA A) (ndM A).length := (List.getElem?_eq_some_iff.mp h1').1
        refine ⟨by rw [f7 187 (by decide), d3 187 (by decide), e5, sI_n _ _ (by decide)]; exact (b6 u r' h1').1, fun a y hy => ?_⟩
        obtain ⟨a1, rfl⟩ := rng_get hy
        rw [f7 189 (by decide), (hrow u a hu (by omega)).1, tkG_of h1']
      · have lm8 : LM t I1 I8 J1 J4 := d2.tr ⟨fun j a b c => by rw [g1 j (by omega) (by omega), f7 j (by omega)], fun q hq hqt => MEq.oth (by rw [g2 q hqt, f7 184 (by decide)]) (by rw [g1 185 (by decide) (by decide), f7 185 (by decide)]) (by rw [g1 186 (by decide) (by decide), e7, sI_s, pk_un hqt]) (fun j u v => ⟨by rw [g1 187 (by decide) (by decide), f7 187 (by decide)], by rw [g3 j (by omega), f7 188 (by decide)]⟩) (fun j u v => by rw [g1 189 (by decide) (by decide), f7 189 (by decide), g1 190 (by decide) (by decide), f7 190 (by decide)]; exact ⟨rfl, rfl⟩), fun _ _ => rfl⟩
        have e8 : (kdOf k (qsG (ndM A).length (toA A) (anA A) (eqA A) k), k, qsG (ndM A).length (toA A) (anA A) (eqA A) k) = leastA A := by rw [hkk]; rfl
        rw [e8] at g4
        refine q1 hg I8 J4 (lmMS lm8).1 (lmMS lm8).2 g4 (fun u r y hr hy => ?_)
        rw [(b6 u r hr).2]
        exact (pm.2 r y hy).2.2
    · have hxn : x < (ndM A).length := by omega
      rw [if_neg (show ¬ nI (ndM A).length ≤ nI x by rw [leNN (by omega) (by omega)]; omega)]
      refine lp2 (fun f (a : Nat) (I7 : MI) => f_Model_findLeast_L186 (nI t) (nI x) _ f (nI a) I7 J4) (fun a I7 => a ≤ 4 ∧ LM t I1 I7 J1 J4 ∧ (∀ j, j ≠ 189 → I7 j = I5 j) ∧ (∀ i' a, i' < x → a < 4 → I7 189 (4 * (14 * t + cls (eqA A) i') + a) = enO ((toA A i' a).map (cls (eqA A)))) ∧ ∀ b, b < a → I7 189 (4 * (14 * t + cls (eqA A) x) + b) = enO ((toA A x b).map (cls (eqA A)))) (fun a _ => 5 - a) ?_ 0 I6 ⟨by decide, d2, d3, d4, fun b hb => absurd hb (Nat.not_lt_zero _)⟩
      rintro f3 a I7 ⟨e1, e2, e3, e4, e5'⟩ ih3
      have l196 : ∀ j, j < (ndM A).length → I7 196 j = nI (cls (eqA A) j) := fun j hj => by rw [e3 196 (by decide), e5, sI_n _ _ (by decide)]; exact b5 j hj
      have hcx := hcl x hxn
      unfold f_Model_findLeast_L186
      by_cases ea : a = 4
      · rw [if_pos (show (4 : Int32) ≤ nI a by rw [ea]; decide), nI_1, forall_eq]
        subst ea
        refine ih2 (x + 1) I7 ⟨by omega, e2, e3, fun i' b hi' hb => ?_⟩ (by omega)
        by_cases hix : i' = x
        · rw [hix]; exact e5' b hb
        · exact e4 i' b (by omega) hb
      · obtain ⟨t1, t2, t3⟩ := gr.2.2.2.2 x a hxn (by omega)
        rw [if_neg (show ¬ (4 : Int32) ≤ nI a by rw [l4, leNN (by decide) (by omega)]; omega), l4, pk_mul, nI_add, vpN (by omega), nI_clamp (by omega), e2.1 194 (by omega) (by omega) (by omega), t1, forall_eq, vpN (by omega), nI_clamp (by omega), l196 x hxn, spotN]
        refine ⟨by omega, by omega, ?_⟩
        have wr : ∀ y : Int32, y = enO ((toA A x a).map (cls (eqA A))) → f_Model_findLeast_b239 (nI a) (nI (4 * (14 * t + cls (eqA A) x) + a)) y (f_Model_findLeast_L186 (nI t) (nI x) (fun (I : MI) (J : MJ) => ∀ t246 : Int32, t246 = nI x + 1 → f_Model_findLeast_L174 (nI t) (fun (I : MI) (J : MJ) => f_Model_trim (nI t) I J (fun I254 J254 => Q 1 I254 J254)) f2' t246 I J) f3) I7 J4 := by
          intro y hy
          unfold f_Model_findLeast_b239
          rw [vpN (by omega), nI_clamp (by omega)]
          refine ⟨by omega, fun I8 e8 u eu => ?_⟩
          rw [eu, nI_1 a]
          have m9 : ∀ j, I8 189 j = if j = 4 * (14 * t + cls (eqA A) x) + a then y else I7 189 j := fun j => by rw [e8, sI_s, upd_at]
          refine ih3 (a + 1) I8 ⟨by omega, e2.tr ⟨fun j a b c => by rw [e8, sI_n _ _ (by omega)], fun q hq hqt => MEq.oth (by rw [e8, sI_n _ _ (by decide)]) (by rw [e8, sI_n _ _ (by decide)]) (by rw [e8, sI_n _ _ (by decide)]) (fun j _ _ => by rw [e8, sI_n _ _ (by decide), sI_n _ _ (by decide)]; exact ⟨rfl, rfl⟩) (fun j u v => ⟨by rw [m9, if_neg (by omega)], by rw [e8, sI_n _ _ (by decide)]⟩), fun _ _ => rfl⟩, fun j hj => by rw [e8, sI_n _ _ hj]; exact e3 j hj, fun i' b hi' hb => ?_, fun b hb => ?_⟩ (by omega)
          · rw [m9]
            have hci := hcl i' (by omega)
            by_cases hc' : 4 * (14 * t + cls (eqA A) i') + b = 4 * (14 * t + cls (eqA A) x) + a
            · rw [if_pos hc', hy]
              have h1' : cls (eqA A) i' = cls (eqA A) x := by omega
              have h2' : b = a := by omega
              subst h2'
              have hee := (cls_eq hE).mp h1'
              by_cases hbK : b < A.2.1
              · rw [eq_map h7 hc (by omega) hxn hbK hee]
              · rw [t3 (by omega), (gr.2.2.2.2 i' b (by omega) (by omega)).2.2 (by omega)]
            · rw [if_neg hc']; exact e4 i' b hi' hb
          · rw [m9]
            by_cases hba : b = a
            · rw [if_pos (by omega), hy, hba]
            · rw [if_neg (by omega)]; exact e5' b (by omega)
        cases hto : toA A x a with
        | none =>
          rw [hto] at wr
          rw [if_neg (show ¬ (0 : Int32) ≤ enO none by decide)]
          exact wr (-1) rfl
        | some z =>
          rw [hto] at wr
          have hz := t2 z hto
          rw [if_pos (show (0 : Int32) ≤ enO (some z) from nI0_le (by omega)), show enO (some z) = nI z from rfl, vpN (by omega), nI_clamp (by omega), l196 z hz]
          exact ⟨by omega, wr _ rfl⟩
  · have hin : i < (ndM A).length := by omega
    have hci : cr (eqA A) i ≤ i := cr_le _ _
    rw [if_neg (show ¬ nI (ndM A).length ≤ nI i by rw [leNN (by omega) (by omega)]; omega)]
    refine lp2 (fun f (c : Option Nat) (j : Nat) => f_Model_findLeast_L43 (nI i) _ f (enO c) (nI j) I4 J4) (fun c j => j ≤ i ∧ (c = none → ∀ j', j' < j → ¬ eqA A i j') ∧ ∀ u, c = some u → u = cls (eqA A) i ∧ u < 14 ∧ ∃ j', j' < i ∧ eqA A i j') (fun _ j => i - j) ?_ none 0 ⟨Nat.zero_le _, (fun _ j' hj' => absurd hj' (Nat.not_lt_zero _)), fun u hu => by cases hu⟩
    rintro f2' c j ⟨d1, d2, d3⟩ ih2
    unfold f_Model_findLeast_L43
    -- the class of node i is settled
    have nxt : ∀ (c' : Nat) (I5 : MI) (J5 : MJ), c' = cr (eqA A) (i + 1) → LM t I1 I5 J1 J5 → I5 195 = I2 195 → (∀ j, j < i → I5 196 j = nI (cls (eqA A) j)) → (∀ (u r : Nat), (rpL (eqA A) (i + 1))[u]? = some r → I5 187 (14 * t + u) = nI (anA A r) ∧ J5 197 (14 * t + u) = J1 193 r) → I5 186 t = nI 4 → f_Model_findLeast_b149 (nI c') (nI i) (nI (cls (eqA A) i)) (f_Model_findLeast_L28 (nI m) (nI t) (fun (z164_x3 : Int32) (I : MI) (J : MJ) => t < 20 ∧ ∀ I170 : MI, I170 = sI I 185 (upd (I 185) t z164_x3) → ∃ n, f_Model_findLeast_L174 (nI t) (fun (I : MI) (J : MJ) => f_Model_trim (nI t) I J (fun I254 J254 => Q 1 I254 J254)) n (nI 0) I170 J) f) I5 J5 := by
      intro c' I5 J5 h1' h2' h3' h4' h5' h6'
      unfold f_Model_findLeast_b149
      rw [vpN (by omega), nI_clamp (by omega)]
      refine ⟨by omega, fun I6 e6 u eu => ?_⟩
      rw [eu, nI_1]
      have k6 : ∀ j, j ≠ 196 → I6 j = I5 j := fun j hj => by rw [e6, sI_n _ _ hj]
      refine ih c' (i + 1) I6 J5 ⟨by omega, h1', h2'.tr ⟨fun j a b c => k6 j c, fun q hq hqt => MEq.of (fun j u v => k6 j (by omega)), fun _ _ => rfl⟩, by rw [k6 195 (by decide)]; exact h3', fun j hj => ?_, fun u r hr => by rw [k6 187 (by decide)]; exact h5' u r hr, by rw [k6 186 (by decide)]; exact h6'⟩ (by omega)
      rw [e6, sI_s, upd_at]
      by_cases hji : j = i
      · rw [if_pos hji, hji]
      · rw [if_neg hji]; exact h4' j (by omega)
    have fin : (c = none → j = i) → f_Model_findLeast_b90 (nI m) (nI t) (nI (cr (eqA A) i)) (nI i) (enO c) (f_Model_findLeast_L28 (nI m) (nI t) (fun (z164_x3 : Int32) (I : MI) (J : MJ) => t < 20 ∧ ∀ I170 : MI, I170 = sI I 185 (upd (I 185) t z164_x3) → ∃ n, f_Model_findLeast_L174 (nI t) (fun (I : MI) (J : MJ) => f_Model_trim (nI t) I J (fun I254 J254 => Q 1 I254 J254)) n (nI 0) I170 J) f) I4 J4 := by
      intro hcj
      unfold f_Model_findLeast_b90
      cases c with
      | some u =>
        obtain ⟨k1, k2, j', k3, k4⟩ := d3 u rfl
        rw [if_pos (show (0 : Int32) ≤ enO (some u) from nI0_le (by omega)), show enO (some u) = nI (cls (eqA A) i) by rw [← k1]; rfl]
        have hnr : ¬ isRp (eqA A) i := fun h => h j' k3 (hE.2.1 _ _ k4)
        exact nxt (cr (eqA A) i) I4 J4 (cr_n hnr).symm b3 b4 b5 (fun u r hr => by rw [rpL_n hnr] at hr; exact b6 u r hr) b7
      | none =>
        have hrep : isRp (eqA A) i := fun j' hj' hh => d2 rfl j' (by rw [hcj rfl]; exact hj') (hE.2.1 _ _ hh)
        obtain ⟨i7, s, s14, s1, s2⟩ := gr.2.2.2.1 i hin
        have hq := b3.2.1 m (by omega) (by omega)
        have hs187 : I4 187 (14 * m + s) = nI (anA A i) := by rw [(hq.2.2.2.1 s s14).1]; exact s2
        rw [if_neg (by decide), vpN (by omega), nI_clamp (by omega), b3.1 191 (by omega) (by omega) (by omega), s1, l14, pk_mul, nI_add, pk_mul, nI_add, vpN (by omega), vpN (by omega), nI_clamp (by omega), nI_clamp (by omega), hs187]
        refine ⟨by omega, by omega, by omega, fun I5 e5 => ⟨by omega, by omega, fun J5 e6 => ?_⟩⟩
        rw [nI_1, forall_eq, ← cls_rep hE hrep]
        have k5 : ∀ j, j ≠ 187 → I5 j = I4 j := fun j hj => by rw [e5, sI_n _ _ hj]
        have m7 : ∀ j, I5 187 j = if j = 14 * t + cr (eqA A) i then nI (anA A i) else I4 187 j := fun j => by rw [e5, sI_s, upd_at]
        refine nxt (cls (eqA A) i + 1) I5 J5 (by rw [cls_rep hE hrep, cr_p hrep]) (b3.tr ⟨fun j a b c => k5 j (by omega), fun q hq hqt => MEq.oth (by rw [k5 184 (by decide)]) (by rw [k5 185 (by decide)]) (by rw [k5 186 (by decide)]) (fun j u v => ⟨by rw [m7, if_neg (by omega)], by rw [k5 188 (by decide)]⟩) (fun j u v => by rw [k5 189 (by decide), k5 190 (by decide)]; exact ⟨rfl, rfl⟩), fun j hj => by rw [e6, sJ_at, if_neg hj]⟩) (by rw [k5 195 (by decide)]; exact b4) (fun j hj => by rw [k5 196 (by decide)]; exact b5 j hj) (fun u r hr => ?_) (by rw [k5 186 (by decide)]; exact b7)
        rw [rpL_p hrep] at hr
        have j193 : J4 193 = J1 193 := b3.2.2 193 (by decide)
        have m97 : ∀ j, J5 197 j = if j = 14 * t + cr (eqA A) i then J1 193 i else J4 197 j := fun j => by rw [e6, sJ_at, if_pos rfl, updL_at, j193]
        rw [m7, m97]
        rcases app_get hr with ⟨u1, u2⟩ | ⟨u1, u2⟩
        · have : u < cr (eqA A) i := u1
          rw [if_neg (by omega), if_neg (by omega)]; exact b6 u r u2
        · have : u = cr (eqA A) i := u1
          rw [if_pos (by omega), if_pos (by omega), u2]; exact ⟨rfl, rfl⟩
    by_cases ej : j = i
    · rw [if_pos (show nI i ≤ nI j by rw [ej, leNN (by omega) (by omega)]; omega)]
      exact fin (fun _ => ej)
    · rw [if_neg (show ¬ nI i ≤ nI j by rw [leNN (by omega) (by omega)]; omega)]
      cases c with
      | some u =>
        have := (d3 u rfl).2.1
        rw [if_pos (show (0 : Int32) ≤ enO (some u) from nI0_le (by omega))]
        exact fin (fun hh => by cases hh)
      | none =>
        have hjn : j < (ndM A).length := by omega
        have hcj := cls_lt hE hjn
        unfold f_Model_findLeast_b82
        rw [if_neg (show ¬ (0 : Int32) ≤ enO none by decide), l16, pk_mul, nI_add, vpN (by omega), nI_clamp (by omega), b4, hU i j hin hjn]
        refine ⟨by omega, ?_⟩
        cases hu : U i j with
        | false =>
          have hee := (hUE i j hin hjn).mp hu
          rw [if_pos (by decide), vpN (by omega), nI_clamp (by omega), b5 j (by omega), nI_1, forall_eq]
          exact ⟨by omega, ih2 (some (cls (eqA A) j)) (j + 1) ⟨by omega, (fun hh => by cases hh), fun u hu' => by cases hu'; exact ⟨((cls_eq hE).mpr hee).symm, by omega, j, by omega, hee⟩⟩ (by omega)⟩
        | true =>
          rw [if_neg (by decide), nI_1, forall_eq]
          refine ih2 none (j + 1) ⟨by omega, fun _ j' hj' hh => ?_, (fun u hu' => by cases hu')⟩ (by omega)
          by_cases hjj : j' = j
          · rw [hjj] at hh
            have := (hUE i j hin hjn).mpr hh
            rw [hu] at this; cases this
          · exact d2 rfl j' (by omega) hh
