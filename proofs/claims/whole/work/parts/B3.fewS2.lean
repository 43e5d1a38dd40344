/-! fewest, the class: the search -/
def TbT (I : MI) (T : Nat → Nat) (N : Nat) : Prop := ∀ c, c < N → I 59 c = nI (T c)
theorem m1c {t a : Nat} (ht : t < 2 ^ 30) (ha : a < 2 ^ 30) : (nI t - 1 < nI a) ↔ t < a + 1 := by
  rw [Int32.lt_iff_toInt_lt, l1, pk_sub_toInt ht (by decide), nI_toInt (by omega)]
  omega
theorem m1cc {t a : Nat} (ht : t < 2 ^ 30) (ha : a < 2 ^ 30) : (nI t - 1 < nI a - 1) ↔ t < a := by
  rw [Int32.lt_iff_toInt_lt, l1, pk_sub_toInt ht (by decide), pk_sub_toInt ha (by decide)]
  omega
def kpS (I I' : MI) : Prop := ∀ c, c ≠ 57 → c ≠ 58 → c ≠ 59 → I' c = I c
theorem kpS.rf {I : MI} : kpS I I := fun _ _ _ _ => rfl
theorem kpS.tr {I I' I'' : MI} (h : kpS I I') (h' : kpS I' I'') : kpS I I'' := fun c a b d => (h' c a b d).trans (h c a b d)
theorem kpS.kn {I I' : MI} {J : MJ} {ks : List (Int64 × Nat)} (h : kpS I I') (hk : KnS I J ks) : KnS I' J ks := by
  unfold KnS at *
  rw [h 52 (by decide) (by decide) (by decide), h 54 (by decide) (by decide) (by decide), h 56 (by decide) (by decide) (by decide)]
  exact hk
theorem kpS.or {I I' : MI} {m : Nat} (h : kpS I I') (ho : OrS I m) : OrS I' m := by
  unfold OrS at *
  rw [h 55 (by decide) (by decide) (by decide)]
  exact ho
theorem s_runT {ks : List (Int64 × Nat)} {i k n : Nat} {T : Nat → Nat} {q : Int64 × Nat} {I : MI} {J : MJ} {Q : MI → MJ → Prop} (h : KnS I J ks) (hq : ks[i]? = some q) (hN : n * k ≤ 56) (h0 : 0 < n) (hT : vT n (n * k) T) (hn : n ≤ 14) (hk : k ≤ 4) (hI : TbT I T (n * k)) (hs : ∀ a ∈ wdW q.1, a < k) (r : ∀ I', (∀ c, c ≠ 57 → c ≠ 58 → I' c = I c) → (∀ j, I' 57 j = if j = i then nI (eT k T 0 (wdW q.1)) else I 57 j) → (∀ j, I' 58 j = if j = i then nI (tp k T 0 0 (wdW q.1)) - 1 else I 58 j) → Q I' J) : f_Known_runTable (nI i) (nI k) I J Q := by
  obtain ⟨hi, hw, h7, e1, e2, e3⟩ := h.at' hq
  have h30 := hw.1
  generalize wdW q.1 = w at *
  unfold f_Known_runTable
  rw [vpN (by omega), nI_clamp (by omega), e3, forall_eq]
  refine ⟨hi, ?_⟩
  refine lp3 (fun f (s t j : Nat) => f_Known_runTable_L15 (nI i) (nI k) _ f (nI s) (nI t - 1) (nI (w.length - j) - 1) I J) (fun s t j => j ≤ w.length ∧ s < n ∧ t ≤ n * k ∧ eT k T 0 w = eT k T s (w.drop j) ∧ tp k T 0 0 w = tp k T s t (w.drop j)) (fun _ _ j => w.length - j) ?_ 0 0 0 ⟨Nat.zero_le _, h0, Nat.zero_le _, rfl, rfl⟩
  rintro f s t j ⟨b1, b2, b3, b4, b5⟩ ih
  unfold f_Known_runTable_L15
  by_cases ej : j = w.length
  · rw [ej, Nat.sub_self, if_pos (by decide)]
    rw [ej, List.drop_length] at b4 b5
    have b4' : eT k T 0 w = s := b4
    have b5' : tp k T 0 0 w = t := b5
    refine ⟨hi, fun I1 g1 => ⟨hi, fun I2 g2 => ?_⟩⟩
    refine r I2 (fun c u v => by rw [g2, sI_n _ _ v, g1, sI_n _ _ u]) (fun l => ?_) (fun l => ?_)
    · rw [g2, sI_n _ _ (by decide), g1, sI_s, upd_at, b4']
    · rw [g2, sI_s, upd_at, g1, sI_n _ _ (by decide), b5']
  · have hg : w[j]? = some (w[j]'(by omega)) := List.getElem?_eq_getElem (by omega)
    have hd : w.drop j = w[j]'(by omega) :: w.drop (j + 1) := List.drop_eq_getElem_cons (by omega)
    generalize w[j]'(by omega) = a at hg hd
    have ha := hs a (List.mem_of_getElem? hg)
    have hc := cell_lt b2 ha
    rw [show w.length - j = (w.length - 1 - j) + 1 by omega, nI_pred, if_neg (nI0_lt (by omega)), vpN (by omega), nI_clamp (by omega), e1, s_sign hw (b := w.length - 1 - j) (a := a) (by omega) (by rw [show w.length - 1 - (w.length - 1 - j) = j by omega]; exact hg), pk_mul, nI_add, forall_eq]
    refine ⟨hi, fun t2 et2 => ⟨(vpN (by omega)).mpr (by omega), fun t3 et3 t4 et4 => ?_⟩⟩
    rw [nI_clamp (by omega), hI _ hc] at et3
    rw [m1_add] at et4
    rw [et3, et4]
    rw [hd] at b4 b5
    rw [eT_c] at b4
    replace b5 : tp k T 0 0 w = tp k T (T (s * k + a)) (if t < s * k + a + 1 then s * k + a + 1 else t) (w.drop (j + 1)) := b5
    have ht2 : t2 = nI (if t < s * k + a + 1 then s * k + a + 1 else t) - 1 := by
      rw [et2]
      by_cases hcmp : t < s * k + a + 1
      · rw [if_pos ((m1c (by omega) (by omega)).mpr hcmp), if_pos hcmp, nI_pred]
      · rw [if_neg (fun hh => hcmp ((m1c (by omega) (by omega)).mp hh)), if_neg hcmp]
    rw [ht2]
    have := ih (T (s * k + a)) (if t < s * k + a + 1 then s * k + a + 1 else t) (j + 1) ⟨by omega, hT _ hc, by split <;> omega, b4, b5⟩ (by omega)
    rw [show w.length - (j + 1) = w.length - 1 - j by omega] at this
    exact this
theorem s_clash_in {ks : List (Int64 × Nat)} {p v : Nat} {g : Nat → Nat} {I : MI} {J : MJ} {k47 : Int32 → MI → MJ → Prop} {k79 : MI → MJ → Prop} {z : Int64 × Nat} (h : KnS I J ks) (hg : ∀ v, v < ks.length → g v < 2 ^ 31) (hp : p < ks.length) (ho : OrS I ks.length) (hv : I 55 p = nI v) (hz : ks[v]? = some z) (he : ∀ j u, j ≤ p → u < ks.length → I 55 j = nI u → I 57 u = nI (g u)) (q79 : (∀ (j u : Nat) (y : Int64 × Nat), j < p → I 55 j = nI u → ks[u]? = some y → z.2 ≠ y.2 → g v ≠ g u) → k79 I J) (q47 : ∀ (j u : Nat) (y : Int64 × Nat), j < p → u < ks.length → I 55 j = nI u → ks[u]? = some y → z.2 ≠ y.2 → g v = g u → k47 (nI j) I J) : ∃ n, f_Known_clash_L23 (nI p) k47 k79 n 0 I J := by
  have h12 := h.1.1
  have hvl := (List.getElem?_eq_some_iff.mp hz).1
  refine lp1 (fun n (j : Nat) => f_Known_clash_L23 (nI p) k47 k79 n (nI j) I J) (fun j => j ≤ p ∧ ∀ (j' u : Nat) (y : Int64 × Nat), j' < j → I 55 j' = nI u → ks[u]? = some y → z.2 ≠ y.2 → g v ≠ g u) (fun j => p - j) ?_ 0 ⟨Nat.zero_le _, fun j' u y hj => absurd hj (Nat.not_lt_zero _)⟩
  rintro n j ⟨b1, b2⟩ ih
  unfold f_Known_clash_L23
  by_cases ej : j = p
  · rw [if_pos (by rw [ej, leNN (by omega) (by omega)]; exact Nat.le_refl _)]
    subst ej
    exact q79 b2
  · obtain ⟨u, hu, eu⟩ := ho.1 j (by omega)
    have hy := List.getElem?_eq_getElem hu
    generalize ks[u] = y at hy
    obtain ⟨_, _, z7, _, z4, _⟩ := h.at' hz
    obtain ⟨_, _, y7, _, y4, _⟩ := h.at' hy
    have g1 := he p v (Nat.le_refl _) hvl hv
    have g2 := he j u (by omega) hu eu
    have c1 := hg v hvl
    have c2 := hg u hu
    rw [if_neg (by rw [leNN (by omega) (by omega)]; omega), vpN (by omega), vpN (by omega), nI_clamp (by omega), nI_clamp (by omega), hv, eu]
    refine ⟨by omega, by omega, ?_⟩
    unfold f_Known_doClash
    rw [vpN (by omega), vpN (by omega), nI_clamp (by omega), nI_clamp (by omega), g1, g2, z4, y4]
    refine ⟨by omega, by omega, ?_⟩
    have skip : ¬ (z.2 ≠ y.2 ∧ g v = g u) → ∀ t73 : Int32, t73 = nI j + 1 → f_Known_clash_L23 (nI p) k47 k79 n t73 I J := fun hno t et => by
      rw [et, nI_1 j]
      refine ih (j + 1) ⟨by omega, fun j' u' y' hj' hu' hy' hne => ?_⟩ (by omega)
      by_cases hjj : j' = j
      · subst hjj
        rw [eu] at hu'
        have hu12 := (List.getElem?_eq_some_iff.mp hy').1
        have : u = u' := (nI_eq (by omega) (by omega)).mp hu'
        subst this
        rw [hy] at hy'
        cases hy'
        exact fun e => hno ⟨hne, e⟩
      · exact b2 j' u' y' (by omega) hu' hy' hne
    by_cases e1 : g v = g u
    · rw [if_pos (by rw [e1])]
      refine ⟨by omega, by omega, ?_⟩
      by_cases e2 : z.2 = y.2
      · rw [if_pos (by rw [e2])]
        show if (0 : Int32) = 0 then _ else _
        rw [if_pos rfl]
        exact skip (fun hh => hh.1 e2)
      · rw [if_neg (by rw [eqNN (by omega) (by omega)]; exact e2)]
        show if (1 : Int32) = 0 then _ else _
        rw [if_neg (by decide)]
        exact q47 j u y (by omega) hu eu hy e2 e1
    · rw [if_neg (by rw [eqNN (by omega) (by omega)]; exact e1)]
      show if (0 : Int32) = 0 then _ else _
      rw [if_pos rfl]
      exact skip (fun hh => e1 hh.2)
theorem s_clash {ks : List (Int64 × Nat)} {k n : Nat} {T : Nat → Nat} {I : MI} {J : MJ} {Q : Int32 → MI → MJ → Prop} (h : KnS I J ks) (ho : OrS I ks.length) (hN : n * k ≤ 56) (h0 : 0 < n) (hn : n ≤ 14) (hk : k ≤ 4) (hT : vT n (n * k) T) (hI : TbT I T (n * k)) (hs : ∀ q ∈ ks, ∀ a ∈ wdW q.1, a < k) (q1 : RgT ks k T → ∀ I', (∀ c, c ≠ 57 → c ≠ 58 → I' c = I c) → (∀ (v : Nat) (z : Int64 × Nat), ks[v]? = some z → I' 57 v = nI (eT k T 0 (wdW z.1))) → Q (-1) I' J) (q0 : ∀ u I', 1 ≤ u → u ≤ n * k → (∀ X, (∀ c, c < u → X c = T c) → ¬ RgT ks k X) → (∀ c, c ≠ 57 → c ≠ 58 → I' c = I c) → Q (nI (u - 1)) I' J) : f_Known_clash (nI k) I J Q := by
  have h12 := h.1.1
  have hVK := h.1
  unfold f_Known_clash
  have gl : ∀ (v : Nat) (z : Int64 × Nat), ks[v]? = some z → eT k T 0 (wdW z.1) < n := fun v z hz => eT_lt hT _ 0 h0 (hs z (List.mem_of_getElem? hz))
  refine lp2 (fun f (p : Nat) (I1 : MI) => f_Known_clash_L2 (nI k) _ _ f (nI p) I1 J) (fun p I1 => p ≤ ks.length ∧ (∀ c, c ≠ 57 → c ≠ 58 → I1 c = I c) ∧ (∀ (j v : Nat) (z : Int64 × Nat), j < p → I 55 j = nI v → ks[v]? = some z → I1 57 v = nI (eT k T 0 (wdW z.1)) ∧ I1 58 v = nI (tp k T 0 0 (wdW z.1)) - 1) ∧ ∀ (j j' v u : Nat) (z y : Int64 × Nat), j < p → j' < p → I 55 j = nI v → I 55 j' = nI u → ks[v]? = some z → ks[u]? = some y → z.2 ≠ y.2 → eT k T 0 (wdW z.1) ≠ eT k T 0 (wdW y.1)) (fun p _ => ks.length - p) ?_ 0 I ⟨Nat.zero_le _, fun _ _ _ => rfl, (fun j v z hj => absurd hj (Nat.not_lt_zero _)), (fun j j' v u z y hj => absurd hj (Nat.not_lt_zero _))⟩
  rintro f p I1 ⟨b1, b2, b3, b4⟩ ih
  have h1 : KnS I1 J ks := by
    unfold KnS at *
    rw [b2 52 (by decide) (by decide), b2 54 (by decide) (by decide), b2 56 (by decide) (by decide)]
    exact h
  unfold f_Known_clash_L2
  rw [h1.2.1]
  by_cases ep : p = ks.length
  · rw [if_pos (by rw [ep, leNN (by omega) (by omega)]; exact Nat.le_refl _)]
    refine q1 (fun z hz y hy hne => ?_) I1 b2 (fun v z hz => ?_)
    · obtain ⟨v, hv⟩ := List.mem_iff_getElem?.mp hz
      obtain ⟨u, hu⟩ := List.mem_iff_getElem?.mp hy
      obtain ⟨j, j1, j2⟩ := ho.2 v (List.getElem?_eq_some_iff.mp hv).1
      obtain ⟨j', j1', j2'⟩ := ho.2 u (List.getElem?_eq_some_iff.mp hu).1
      exact b4 j j' v u z y (by omega) (by omega) j2 j2' hv hu hne
    · obtain ⟨j, j1, j2⟩ := ho.2 v (List.getElem?_eq_some_iff.mp hz).1
      exact (b3 j v z (by omega) j2 hz).1
  · obtain ⟨v, hv, ev⟩ := ho.1 p (by omega)
    have hz := List.getElem?_eq_getElem hv
    generalize ks[v] = z at hz
    rw [if_neg (by rw [leNN (by omega) (by omega)]; omega), vpN (by omega), nI_clamp (by omega), b2 55 (by decide) (by decide), ev]
    refine ⟨by omega, s_runT h1 hz hN h0 hT hn hk (fun c hc => by rw [b2 59 (by decide) (by decide)]; exact hI c hc) (hs z (List.mem_of_getElem? hz)) (fun I2 f1 f2 f3 => ?_)⟩
    have f12 : ∀ c, c ≠ 57 → c ≠ 58 → I2 c = I c := fun c u w => by rw [f1 c u w, b2 c u w]
    have h2 : KnS I2 J ks := by
      unfold KnS at *
      rw [f12 52 (by decide) (by decide), f12 54 (by decide) (by decide), f12 56 (by decide) (by decide)]
      exact h
    have o2 : OrS I2 ks.length := by unfold OrS at *; rw [f12 55 (by decide) (by decide)]; exact ho
    have b3' : ∀ (j u : Nat) (y : Int64 × Nat), j ≤ p → I 55 j = nI u → ks[u]? = some y → I2 57 u = nI (eT k T 0 (wdW y.1)) ∧ I2 58 u = nI (tp k T 0 0 (wdW y.1)) - 1 := fun j u y hj hju hy => by
      have hul := (List.getElem?_eq_some_iff.mp hy).1
      rw [f2, f3]
      by_cases huv : u = v
      · subst huv
        rw [hz] at hy
        cases hy
        rw [if_pos rfl, if_pos rfl]
        exact ⟨rfl, rfl⟩
      · rw [if_neg huv, if_neg huv]
        have hjp : j ≠ p := fun e => by
          subst e
          rw [ev] at hju
          exact huv ((nI_eq (by omega) (by omega)).mp hju).symm
        exact b3 j u y (by omega) hju hy
    refine s_clash_in (v := v) (z := z) (g := fun u => eT k T 0 (wdW (ks.getD u (0, 0)).1)) h2 (fun u hu => ?_) (by omega) o2 (by rw [f12 55 (by decide) (by decide)]; exact ev) hz (fun j u hj hu hju => ?_) (fun hno t et => ?_) (fun j u y hj hu hju hy hne heq => ?_)
    · have hy := List.getElem?_eq_getElem hu
      have := gl u _ hy
      simp only [List.getD, hy, Option.getD_some]
      omega
    · have hy := List.getElem?_eq_getElem hu
      rw [f12 55 (by decide) (by decide)] at hju
      have := (b3' j u _ hj hju hy).1
      simp only [List.getD, hy, Option.getD_some]
      exact this
    · rw [et, nI_1 p]
      refine ih (p + 1) I2 ⟨by omega, f12, (fun j u y hj hju hy => b3' j u y (by omega) hju hy), fun j j' a b x y hj hj' ha hb hx hy hne => ?_⟩ (by omega)
      have hxa := (List.getElem?_eq_some_iff.mp hx).1
      have hyb := (List.getElem?_eq_some_iff.mp hy).1
      have look : ∀ (j u : Nat) (y : Int64 × Nat), j < p → I 55 j = nI u → ks[u]? = some y → z.2 ≠ y.2 → eT k T 0 (wdW z.1) ≠ eT k T 0 (wdW y.1) := fun j u y hj hju hy hne => by
        have := hno j u y hj (by rw [f12 55 (by decide) (by decide)]; exact hju) hy hne
        simp only [List.getD, hz, hy, Option.getD_some] at this
        exact this
      by_cases e1 : j = p
      · subst e1
        rw [ev] at ha
        have := (nI_eq (by omega) (by omega)).mp ha
        subst this
        rw [hz] at hx
        cases hx
        by_cases e2 : j' = j
        · subst e2
          rw [ev] at hb
          have := (nI_eq (by omega) (by omega)).mp hb
          subst this
          rw [hz] at hy
          cases hy
          exact absurd rfl hne
        · exact look j' b y (by omega) hb hy hne
      · by_cases e2 : j' = p
        · subst e2
          rw [ev] at hb
          have := (nI_eq (by omega) (by omega)).mp hb
          subst this
          rw [hz] at hy
          cases hy
          exact fun e => look j a x (by omega) ha hx (fun e => hne e.symm) e.symm
        · exact b4 j j' a b x y (by omega) (by omega) ha hb hx hy hne
    · simp only [List.getD, hz, hy, Option.getD_some] at heq
      rw [f12 55 (by decide) (by decide)] at hju
      have t1 := (b3' p v z (Nat.le_refl _) ev hz).2
      have t2 := (b3' j u y (by omega) hju hy).2
      have l1' := tp_le hT (wdW z.1) 0 0 h0 (Nat.zero_le _) (hs z (List.mem_of_getElem? hz))
      have l2' := tp_le hT (wdW y.1) 0 0 h0 (Nat.zero_le _) (hs y (List.mem_of_getElem? hy))
      rw [vpN (by omega), nI_clamp (by omega), f12 55 (by decide) (by decide), ev, vpN (by omega), nI_clamp (by omega), hju, vpN (by omega), nI_clamp (by omega), t1, t2]
      refine ⟨by omega, by omega, by omega, by omega, ?_⟩
      have fin : ∀ u', tp k T 0 0 (wdW z.1) ≤ u' → tp k T 0 0 (wdW y.1) ≤ u' → u' ≤ n * k → Q (nI u' - 1) I2 J := fun u' d1 d2 d3 => by
        have hu1 : 1 ≤ u' := by
          by_cases hu' : 1 ≤ u'
          · exact hu'
          · exfalso
            have w1 := tp_0 (show tp k T 0 0 (wdW z.1) = 0 by omega)
            have w2 := tp_0 (show tp k T 0 0 (wdW y.1) = 0 by omega)
            exact hne (by rw [hVK.apart hz hy (by rw [w1, w2])])
        have := q0 u' I2 hu1 d3 (fun X hX hR => hR z (List.mem_of_getElem? hz) y (List.mem_of_getElem? hy) hne (by
          rw [tp_agree (T := T) (wdW z.1) 0 0 (fun c hc => hX c (by omega)), tp_agree (T := T) (wdW y.1) 0 0 (fun c hc => hX c (by omega))]
          exact heq)) f12
        obtain ⟨x, rfl⟩ : ∃ x, u' = x + 1 := ⟨u' - 1, by omega⟩
        rw [nI_pred]
        exact this
      by_cases hc : tp k T 0 0 (wdW z.1) < tp k T 0 0 (wdW y.1)
      · rw [if_pos ((m1cc (by omega) (by omega)).mpr hc)]
        exact fin _ (by omega) (Nat.le_refl _) l2'
      · rw [if_neg (fun hh => hc ((m1cc (by omega) (by omega)).mp hh))]
        exact fin _ (Nat.le_refl _) (by omega) l1'
theorem s_adv {ks : List (Int64 × Nat)} {k n u : Nat} {T : Nat → Nat} {I : MI} {J : MJ} {Q : Int32 → MI → MJ → Prop} (hN : n * k ≤ 56) (h0 : 0 < n) (hn : n ≤ 14) (hu1 : 1 ≤ u) (hu : u ≤ n * k) (hT : vT n (n * k) T) (hI : TbT I T (n * k)) (hno : noB ks k n (n * k) (vl n T (n * k))) (hcl : ∀ X, (∀ c, c < u → X c = T c) → ¬ RgT ks k X) (q1 : ∀ T' I', vT n (n * k) T' → TbT I' T' (n * k) → noB ks k n (n * k) (vl n T' (n * k)) → vl n T (n * k) < vl n T' (n * k) → (∀ c, c ≠ 59 → I' c = I c) → Q 1 I' J) (q0 : (∀ X, vT n (n * k) X → ¬ RgT ks k X) → ∀ I', (∀ c, c ≠ 59 → I' c = I c) → Q 0 I' J) : f_Known_advanceTable (nI (u - 1)) (nI n) (nI (n * k)) I J Q := by
  unfold f_Known_advanceTable
  rw [nI_1, show u - 1 + 1 = u by omega, forall_eq]
  refine lp2 (fun f (c : Nat) (I1 : MI) => f_Known_advanceTable_L5 (nI (n * k)) _ f (nI c) I1 J) (fun c I1 => u ≤ c ∧ c ≤ n * k ∧ (∀ d, d ≠ 59 → I1 d = I d) ∧ (∀ d, d < u → I1 59 d = nI (T d)) ∧ ∀ d, u ≤ d → d < c → I1 59 d = 0) (fun c _ => n * k - c) ?_ u I ⟨Nat.le_refl _, hu, fun _ _ => rfl, (fun d hd => hI d (by omega)), (fun d d1 d2 => by omega)⟩
  rintro f c I1 ⟨b1, b2, b3, b4, b5⟩ ih
  unfold f_Known_advanceTable_L5
  by_cases ec : c = n * k
  rotate_left
  · rw [if_neg (by rw [leNN (by omega) (by omega)]; omega), vpN (by omega), nI_clamp (by omega)]
    refine ⟨by omega, fun I2 e2 t et => ?_⟩
    rw [et, nI_1 c]
    have m : ∀ d, I2 59 d = if d = c then 0 else I1 59 d := fun d => by rw [e2, sI_s, upd_at]
    refine ih (c + 1) I2 ⟨by omega, by omega, fun d hd => by rw [e2, sI_n _ _ hd, b3 d hd], fun d hd => by rw [m, if_neg (by omega)]; exact b4 d hd, fun d d1 d2 => ?_⟩ (by omega)
    rw [m]
    by_cases hdc : d = c
    · rw [if_pos hdc]
    · rw [if_neg hdc]; exact b5 d d1 (by omega)
  subst ec
  rw [if_pos (by rw [leNN (by omega) (by omega)]; exact Nat.le_refl _)]
  have ex : ∃ f2, f_Known_advanceTable_L28 (nI n) (fun (z46_x4 : Int32) (I : MI) (J : MJ) => vp_in z46_x4 56 ∧ vp_in z46_x4 56 ∧ ∀ I56 : MI, I56 = sI I 59 (upd (I 59) z46_x4.toNatClampNeg ((I 59 z46_x4.toNatClampNeg) + 1)) → Q 1 I56 J) (fun (I : MI) (J : MJ) => Q 0 I J) f2 (nI u - 1) I1 J := by
    refine lp2 (fun f (a : Nat) (I2 : MI) => f_Known_advanceTable_L28 (nI n) _ _ f (nI a - 1) I2 J) (fun a I2 => a ≤ u ∧ (∀ d, d ≠ 59 → I2 d = I d) ∧ (∀ d, d < a → I2 59 d = nI (T d)) ∧ (∀ d, a ≤ d → d < n * k → I2 59 d = 0) ∧ ∀ d, a ≤ d → d < u → T d + 1 = n) (fun a _ => a) ?_ u I1 ⟨Nat.le_refl _, b3, b4, b5, (fun d d1 d2 => by omega)⟩
    rintro f2 a I2 ⟨c1, c2, c3, c4, c5⟩ ih2
    unfold f_Known_advanceTable_L28
    cases a with
    | zero =>
      rw [if_pos (by decide)]
      exact q0 (noB_end hu hT hno (fun X _ hX => hcl X hX) (fun c hc => c5 c (Nat.zero_le _) hc)) I2 c2
    | succ a =>
      have hTa := hT a (by omega)
      rw [nI_pred, if_neg (nI0_lt (by omega)), vpN (by omega), nI_clamp (by omega), c3 a (by omega)]
      refine ⟨by omega, ?_⟩
      obtain ⟨n', rfl⟩ : ∃ n', n = n' + 1 := ⟨n - 1, by omega⟩
      rw [nI_pred]
      by_cases hc : n' ≤ T a
      · rw [if_pos (by rw [leNN (by omega) (by omega)]; exact hc)]
        refine ⟨by omega, fun I3 e3 t et => ?_⟩
        rw [et, m1_add]
        have m : ∀ d, I3 59 d = if d = a then 0 else I2 59 d := fun d => by rw [e3, sI_s, upd_at]
        refine ih2 a I3 ⟨by omega, fun d hd => by rw [e3, sI_n _ _ hd, c2 d hd], fun d hd => by rw [m, if_neg (by omega)]; exact c3 d (by omega), fun d d1 d2 => ?_, fun d d1 d2 => ?_⟩ (by omega)
        · rw [m]
          by_cases hda : d = a
          · rw [if_pos hda]
          · rw [if_neg hda]; exact c4 d (by omega) d2
        · by_cases hda : d = a
          · subst hda; omega
          · exact c5 d (by omega) d2
      · rw [if_neg (by rw [leNN (by omega) (by omega)]; exact hc)]
        rw [nI_1]
        refine ⟨by omega, by omega, fun I3 e3 => ?_⟩
        have m : ∀ d, I3 59 d = if d = a then nI (T a + 1) else I2 59 d := fun d => by rw [e3, sI_s, upd_at]
        have hT' : vT (n' + 1) ((n' + 1) * k) (fun d => if d < a then T d else if d = a then T a + 1 else 0) := fun d hd => by
          show (if d < a then T d else if d = a then T a + 1 else 0) < n' + 1
          split
          · exact hT d hd
          · split <;> omega
        have hadv := noB_adv (ks := ks) (k := k) (T := T) (T' := fun d => if d < a then T d else if d = a then T a + 1 else 0) (at' := a) hu (by omega) hT hT' hno (fun X _ hX => hcl X hX) (fun d hd => by simp [hd]) (by simp) (fun d d1 d2 => c5 d (by omega) d2) (fun d d1 d2 => by
          show (if d < a then T d else if d = a then T a + 1 else 0) = 0
          rw [if_neg (by omega), if_neg (by omega)])
        refine q1 _ I3 hT' (fun d hd => ?_) hadv.1 hadv.2 (fun d hd => by rw [e3, sI_n _ _ hd, c2 d hd])
        show I3 59 d = nI (if d < a then T d else if d = a then T a + 1 else 0)
        rw [m]
        by_cases hda : d = a
        · rw [if_pos hda, if_neg (by omega), if_pos hda]
        · rw [if_neg hda]
          by_cases hdl : d < a
          · rw [if_pos hdl]; exact c3 d (by omega)
          · rw [if_neg hdl, if_neg hda]; exact c4 d (by omega) hd
  obtain ⟨u', rfl⟩ : ∃ u', u = u' + 1 := ⟨u - 1, by omega⟩
  rw [nI_pred] at ex
  exact ex
theorem s_find {ks : List (Int64 × Nat)} {k n : Nat} {I : MI} {J : MJ} {Q : Int32 → MI → MJ → Prop} (h : KnS I J ks) (ho : OrS I ks.length) (h0 : 0 < n) (hn : n ≤ 14) (hk : k ≤ 4) (hfew : n ^ (n * k) ≤ 20000) (hs : ∀ q ∈ ks, ∀ a ∈ wdW q.1, a < k) (q1 : ∀ T I', fstT ks k n T → kpS I I' → TbT I' T (n * k) → (∀ (v : Nat) (z : Int64 × Nat), ks[v]? = some z → I' 57 v = nI (eT k T 0 (wdW z.1))) → Q 1 I' J) (q0 : (∀ X, vT n (n * k) X → ¬ RgT ks k X) → ∀ I', kpS I I' → Q 0 I' J) : f_Known_findTable (nI n) (nI k) I J Q := by
  have hN : n * k ≤ 56 := Nat.mul_le_mul hn hk
  unfold f_Known_findTable
  refine fillK (by decide) (fun I1 f1 f2 => ?_)
  have kp1 : kpS I I1 := fun c _ _ u => f1 c u
  refine lp2 (fun f (t : Nat) (I2 : MI) => f_Known_findTable_L10 (nI n) (nI k) _ _ _ f (nI t) I2 J) (fun t I2 => kpS I I2 ∧ ∃ T, vT n (n * k) T ∧ TbT I2 T (n * k) ∧ noB ks k n (n * k) (vl n T (n * k)) ∧ t ≤ vl n T (n * k)) (fun t _ => 20001 - t) ?_ 0 I1 ⟨kp1, fun _ => 0, (fun c _ => h0), (fun c hc => by rw [f2, if_pos (by omega)]; rfl), noB_0, Nat.zero_le _⟩
  rintro f t I2 ⟨b1, T, b2, b3, b4, b5⟩ ih
  have hlt := vl_lt b2
  unfold f_Known_findTable_L10
  rw [if_neg (by rw [show (20000 : Int32) = nI 20000 from rfl, ltNN (by decide) (by omega)]; omega), pk_mul]
  refine s_clash (b1.kn h) (b1.or ho) hN h0 hn hk b2 b3 hs (fun hR I3 f3 e3 => ?_) (fun u I3 u1 u2 hcl f3 => ?_)
  · rw [if_pos rfl]
    exact q1 T I3 ⟨b2, hR, b4⟩ (b1.tr (fun c a b _ => f3 c a b)) (fun c hc => by rw [f3 59 (by decide) (by decide)]; exact b3 c hc) e3
  · rw [if_neg (lm1 (by omega))]
    have kp3 : kpS I I3 := b1.tr (fun c a b _ => f3 c a b)
    refine s_adv hN h0 hn u1 u2 b2 (fun c hc => by rw [f3 59 (by decide) (by decide)]; exact b3 c hc) b4 hcl (fun T' I4 c1 c2 c3 c4 f4 => ?_) (fun hno I4 f4 => ?_)
    · rw [if_neg (by decide)]
      intro t' et'
      rw [et', nI_1 t]
      exact ih (t + 1) I4 ⟨kp3.tr (fun c _ _ u => f4 c u), T', c1, c2, c3, by omega⟩ (by omega)
    · rw [if_pos rfl]
      exact q0 hno I4 (kp3.tr (fun c _ _ u => f4 c u))
