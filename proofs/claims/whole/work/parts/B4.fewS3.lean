/-! fewest, the class: the machine -/
noncomputable section
def fwA (ks : List (Int64 × Nat)) (k : Nat) (T : Nat → Nat) (s : Nat) : Nat := ((ks.find? (fun q => decide (eT k T 0 (wdW q.1) = s))).map (fun q => q.2)).getD 0
def fwQ (ks : List (Int64 × Nat)) (k n : Nat) (T : Nat → Nat) : List (Option ROW × Nat) := (List.range n).map (fun s => (some ((List.range k).map (fun a => (some (T (s * k + a)), 0))), fwA ks k T s))
def fwM (ks : List (Int64 × Nat)) (k n : Nat) (T : Nat → Nat) : AM := (kdOf k (fwQ ks k n T), k, fwQ ks k n T)
def fwS (ks : List (Int64 × Nat)) (k : Nat) : Nat → Nat → Option AM
  | 0, _ => none
  | f + 1, n => by classical exact if 20000 < n ^ (n * k) then none else if h : ∃ T, fstT ks k n T then some (fwM ks k n (Classical.choose h)) else fwS ks k f (n + 1)
def opFewest (x : Int32) (σ : SG) : Int32 × SG := match plc x with
  | none => ref 2 σ
  | some t => if σ.2.2.2.2.length = 0 then ref 1 σ else match fwS σ.2.2.2.2 (kK σ.2.2.2.2) 7 1 with
    | none => ref 5 σ
    | some C => don (nI (aN C)) (setF (setD σ t (some (.inl C))) t (σ.2.1 t))
end
theorem fwS_0 {ks : List (Int64 × Nat)} {k f n : Nat} (h : 20000 < n ^ (n * k)) : fwS ks k (f + 1) n = none := by
  unfold fwS
  rw [if_pos h]
theorem fwS_n {ks : List (Int64 × Nat)} {k f n : Nat} (h : ¬ 20000 < n ^ (n * k)) (hx : ¬ ∃ T, fstT ks k n T) : fwS ks k (f + 1) n = fwS ks k f (n + 1) := by
  conv => lhs; unfold fwS
  rw [if_neg h, dif_neg hx]
theorem find_congr {α : Type} {l : List α} {p q : α → Bool} (h : ∀ x ∈ l, p x = q x) : l.find? p = l.find? q := by
  induction l with
  | nil => rfl
  | cons a l ih =>
    rw [List.find?_cons, List.find?_cons, h a (by simp), ih (fun x hx => h x (by simp [hx]))]
theorem eT_agree {n k : Nat} {T T' : Nat → Nat} (hT : vT n (n * k) T) (h : ∀ c, c < n * k → T c = T' c) : ∀ (w : List Nat) (s : Nat), s < n → (∀ a ∈ w, a < k) → eT k T s w = eT k T' s w
  | [], _, _, _ => rfl
  | a :: w, s, hs, hw => by
    have hc := cell_lt hs (hw a (by simp))
    rw [eT_c, eT_c, ← h _ hc]
    exact eT_agree hT h w _ (hT _ hc) (fun b hb => hw b (by simp [hb]))
theorem fwM_eq {ks : List (Int64 × Nat)} {k n : Nat} {T T' : Nat → Nat} (h0 : 0 < n) (hT : vT n (n * k) T) (hs : ∀ q ∈ ks, ∀ a ∈ wdW q.1, a < k) (h : ∀ c, c < n * k → T c = T' c) : fwM ks k n T = fwM ks k n T' := by
  have hA : ∀ s, fwA ks k T s = fwA ks k T' s := fun s => by
    unfold fwA
    rw [find_congr (fun q hq => by rw [eT_agree hT h (wdW q.1) 0 h0 (hs q hq)])]
  have hQ : fwQ ks k n T = fwQ ks k n T' := by
    unfold fwQ
    refine List.map_congr_left (fun s hs' => ?_)
    have hsn := List.mem_range.mp hs'
    rw [hA s]
    congr 2
    refine List.map_congr_left (fun a ha => ?_)
    rw [h _ (cell_lt hsn (List.mem_range.mp ha))]
  unfold fwM
  rw [hQ]
theorem fwS_s {ks : List (Int64 × Nat)} {k f n : Nat} {T : Nat → Nat} (h0 : 0 < n) (hs : ∀ q ∈ ks, ∀ a ∈ wdW q.1, a < k) (h : ¬ 20000 < n ^ (n * k)) (hT : fstT ks k n T) : fwS ks k (f + 1) n = some (fwM ks k n T) := by
  have hex : ∃ T, fstT ks k n T := ⟨T, hT⟩
  unfold fwS
  rw [if_neg h, dif_pos hex]
  have hc := Classical.choose_spec hex
  rw [fwM_eq h0 hc.1 hs (fstT_u hc hT)]
theorem fwA_of {ks : List (Int64 × Nat)} {k : Nat} {T : Nat → Nat} (hR : RgT ks k T) {q : Int64 × Nat} (hq : q ∈ ks) : fwA ks k T (eT k T 0 (wdW q.1)) = q.2 := by
  unfold fwA
  cases hf : ks.find? (fun r => decide (eT k T 0 (wdW r.1) = eT k T 0 (wdW q.1))) with
  | none =>
    have := List.find?_eq_none.mp hf q hq
    simp at this
  | some r =>
    have h1 := List.find?_some hf
    have h2 := List.mem_of_find?_eq_some hf
    simp only [decide_eq_true_eq] at h1
    show r.2 = q.2
    by_cases e : r.2 = q.2
    · exact e
    · exact absurd h1 (hR r h2 q hq e)
theorem fwA_no {ks : List (Int64 × Nat)} {k : Nat} {T : Nat → Nat} {s : Nat} (h : ∀ q ∈ ks, eT k T 0 (wdW q.1) ≠ s) : fwA ks k T s = 0 := by
  unfold fwA
  rw [List.find?_eq_none.mpr (fun q hq => by simp [h q hq])]
  rfl
theorem fwQ_len (ks : List (Int64 × Nat)) (k n : Nat) (T : Nat → Nat) : (fwQ ks k n T).length = n := by simp [fwQ]
theorem fwQ_get {ks : List (Int64 × Nat)} {k n : Nat} {T : Nat → Nat} {s : Nat} {q : Option ROW × Nat} (h : (fwQ ks k n T)[s]? = some q) : s < n ∧ q = (some ((List.range k).map (fun a => (some (T (s * k + a)), 0))), fwA ks k T s) := by
  have hs : s < n := by have := (List.getElem?_eq_some_iff.mp h).1; rw [fwQ_len] at this; exact this
  unfold fwQ at h
  rw [List.getElem?_map, List.getElem?_range hs] at h
  cases h
  exact ⟨hs, rfl⟩
theorem fwA_7 {ks : List (Int64 × Nat)} (hV : VK ks) (k : Nat) (T : Nat → Nat) (s : Nat) : fwA ks k T s ≤ 7 := by
  unfold fwA
  cases hf : ks.find? (fun r => decide (eT k T 0 (wdW r.1) = s)) with
  | none => exact Nat.zero_le _
  | some r => exact (hV.2.1 r (List.mem_of_find?_eq_some hf)).2
theorem fwQ_full {ks : List (Int64 × Nat)} (hV : VK ks) {k n : Nat} {T : Nat → Nat} (hT : vT n (n * k) T) : FullQ n k (fwQ ks k n T) := by
  intro q hq
  obtain ⟨s, hs⟩ := List.mem_iff_getElem?.mp hq
  obtain ⟨s1, rfl⟩ := fwQ_get hs
  refine ⟨fwA_7 hV k T s, _, rfl, by simp, fun x hx => ?_⟩
  obtain ⟨a, ha, rfl⟩ := List.mem_map.mp hx
  refine ⟨fun t ht => ?_, rfl⟩
  have ht' : T (s * k + a) = t := by simpa using ht
  rw [← ht']
  exact hT _ (cell_lt s1 (List.mem_range.mp ha))
theorem fwM_VL {ks : List (Int64 × Nat)} (hV : VK ks) {k n : Nat} {T : Nat → Nat} (h0 : 0 < n) (hn : n ≤ 14) (hk1 : 1 ≤ k) (hk : k ≤ 4) (hT : vT n (n * k) T) : VL (fwM ks k n T) := by
  have hf := fwQ_full hV hT
  have hl := fwQ_len ks k n T
  have hf' : FullQ (fwQ ks k n T).length k (fwQ ks k n T) := by rw [hl]; exact hf
  exact hf'.va (by omega) (by omega) hk1 hk
theorem s_write_in {o k n s : Nat} {T : Nat → Nat} {I : MI} {J : MJ} {kk : MI → MJ → Prop} (ho : 60 ≤ o) (hs : s < n) (hn : n ≤ 14) (hk : k ≤ 4) (hI : TbT I T (n * k)) (q : ∀ I', (∀ c, c ≠ o + 2 → I' c = I c) → (∀ j, (j < s * 4 ∨ s * 4 + 4 ≤ j) → I' (o + 2) j = I (o + 2) j) → (∀ a, a < k → I' (o + 2) (s * 4 + a) = nI (T (s * k + a))) → kk I' J) : ∃ f, f_Known_writeTable_L19 o (nI k) (nI s) kk f 0 I J := by
  have hN : n * k ≤ 56 := Nat.mul_le_mul hn hk
  refine lp2 (fun f (a : Nat) (I1 : MI) => f_Known_writeTable_L19 o (nI k) (nI s) kk f (nI a) I1 J) (fun a I1 => a ≤ k ∧ (∀ c, c ≠ o + 2 → I1 c = I c) ∧ (∀ j, (j < s * 4 ∨ s * 4 + 4 ≤ j) → I1 (o + 2) j = I (o + 2) j) ∧ ∀ b, b < a → I1 (o + 2) (s * 4 + b) = nI (T (s * k + b))) (fun a _ => 5 - a) ?_ 0 I ⟨Nat.zero_le _, fun _ _ => rfl, fun _ _ => rfl, fun b hb => absurd hb (Nat.not_lt_zero _)⟩
  rintro f a I1 ⟨b1, b2, b3, b4⟩ ih
  unfold f_Known_writeTable_L19
  by_cases ea : a = k
  · rw [if_pos (by rw [ea, leNN (by omega) (by omega)]; exact Nat.le_refl _)]
    subst ea
    exact q I1 b2 b3 b4
  · have hc := cell_lt hs (show a < k by omega)
    rw [if_neg (by rw [leNN (by omega) (by omega)]; omega), l4, pk_mul, pk_mul, nI_add, nI_add, vpN (by omega), vpN (by omega), nI_clamp (by omega), nI_clamp (by omega), b2 59 (by omega), hI _ hc]
    refine ⟨by omega, by omega, fun I2 e2 t et => ?_⟩
    rw [et, nI_1 a]
    refine ih (a + 1) I2 ⟨by omega, fun c hc => by rw [e2, sI_n _ _ hc, b2 c hc], fun j hj => by rw [e2, sI_s, upd_at, if_neg (by omega)]; exact b3 j hj, fun b hb => ?_⟩ (by omega)
    rw [e2, sI_s, upd_at]
    by_cases hba : b = a
    · rw [if_pos (by omega), hba]
    · rw [if_neg (by omega)]; exact b4 b (by omega)
theorem s_write {ks : List (Int64 × Nat)} {o k n : Nat} {T : Nat → Nat} {I : MI} {J : MJ} {Q : MI → MJ → Prop} (ho : 60 ≤ o) (h : KnS I J ks) (h0 : 0 < n) (hn : n ≤ 14) (hk : k ≤ 4) (hT : vT n (n * k) T) (hR : RgT ks k T) (hs : ∀ q ∈ ks, ∀ a ∈ wdW q.1, a < k) (hI : TbT I T (n * k)) (he : ∀ (v : Nat) (z : Int64 × Nat), ks[v]? = some z → I 57 v = nI (eT k T 0 (wdW z.1))) (q : ∀ I', (∀ c, c < o ∨ o + 4 < c → I' c = I c) → RepC I' o (fwM ks k n T) → Q I' J) : f_Known_writeTable o (nI n) (nI k) I J Q := by
  have h12 := h.1.1
  unfold f_Known_writeTable
  refine beginK (kd := 0) (fun I1 f1 f2 f3 f4 f5 => ?_) hn hk
  have hn1 : I1 o 1 = nI n := by have := f3.2.1; rw [newA_n] at this; exact this
  have hn2 : I1 o 2 = nI k := f3.2.2.1
  refine lp2 (fun f (s : Nat) (I2 : MI) => f_Known_writeTable_L10 o (nI n) (nI k) _ f (nI s) I2 J) (fun s I2 => s ≤ n ∧ (∀ c, c ≠ o + 2 → I2 c = I1 c) ∧ ∀ u a, u < s → a < k → I2 (o + 2) (u * 4 + a) = nI (T (u * k + a))) (fun s _ => n - s) ?_ 0 I1 ⟨Nat.zero_le _, fun _ _ => rfl, fun u a hu => absurd hu (Nat.not_lt_zero _)⟩
  rintro f s I2 ⟨b1, b2, b3⟩ ih
  unfold f_Known_writeTable_L10
  by_cases es : s = n
  rotate_left
  · rw [if_neg (by rw [leNN (by omega) (by omega)]; omega)]
    refine s_write_in ho (show s < n by omega) hn hk (fun c hc => by rw [b2 59 (by omega), f1 59 (by omega)]; exact hI c hc) (fun I3 g1 g2 g3 t et => ?_)
    rw [et, nI_1 s]
    refine ih (s + 1) I3 ⟨by omega, fun c hc => by rw [g1 c hc, b2 c hc], fun u a hu ha => ?_⟩ (by omega)
    by_cases hus : u = s
    · subst hus; exact g3 a ha
    · rw [g2 _ (by omega)]; exact b3 u a (by omega) ha
  subst es
  rw [if_pos (by rw [leNN (by omega) (by omega)]; exact Nat.le_refl _)]
  -- the answers
  have kn2 : KnS I2 J ks := by
    unfold KnS at *
    rw [b2 52 (by omega), f1 52 (by omega), b2 54 (by omega), f1 54 (by omega), b2 56 (by omega), f1 56 (by omega)]
    exact h
  have gl : ∀ (v : Nat) (z : Int64 × Nat), ks[v]? = some z → eT k T 0 (wdW z.1) < s := fun v z hz => eT_lt hT _ 0 h0 (hs z (List.mem_of_getElem? hz))
  refine lp2 (fun f (i : Nat) (I3 : MI) => f_Known_writeTable_L64 o _ f (nI i) I3 J) (fun i I3 => i ≤ ks.length ∧ (∀ c, c ≠ o + 4 → I3 c = I2 c) ∧ (∀ (j : Nat) (z : Int64 × Nat), j < i → ks[j]? = some z → I3 (o + 4) (eT k T 0 (wdW z.1)) = nI z.2) ∧ ∀ u, u < s → (∀ (j : Nat) (z : Int64 × Nat), j < i → ks[j]? = some z → eT k T 0 (wdW z.1) ≠ u) → I3 (o + 4) u = 0) (fun i _ => ks.length - i) ?_ 0 I2 ⟨Nat.zero_le _, fun _ _ => rfl, (fun j z hj => absurd hj (Nat.not_lt_zero _)), (fun u hu _ => by rw [b2 (o + 4) (by omega)]; exact (f4 u (by omega)).2)⟩
  rintro f3' i I3 ⟨c1, c2, c3, c4⟩ ih2
  unfold f_Known_writeTable_L64
  rw [c2 52 (by omega), kn2.2.1]
  by_cases ei : i = ks.length
  · rw [if_pos (by rw [ei, leNN (by omega) (by omega)]; exact Nat.le_refl _)]
    have e1 : I3 o 1 = nI (fwQ ks k s T).length := by rw [fwQ_len, c2 o (by omega), b2 o (by omega)]; exact hn1
    have e2 : I3 o 2 = nI k := by rw [c2 o (by omega), b2 o (by omega)]; exact hn2
    have rows : ∀ (u : Nat) (z : Option ROW × Nat), (fwQ ks k s T)[u]? = some z → RowC I3 o u z := by
      intro u z hz
      obtain ⟨hu, rfl⟩ := fwQ_get hz
      refine ⟨?_, (fun hh => by cases hh), fun r' hr' => ?_⟩
      · show I3 (o + 4) u = nI (fwA ks k T u)
        by_cases hex : ∃ z ∈ ks, eT k T 0 (wdW z.1) = u
        · obtain ⟨z, z1, z2⟩ := hex
          obtain ⟨j, hj⟩ := List.mem_iff_getElem?.mp z1
          rw [← z2, fwA_of hR z1]
          exact c3 j z (by have := (List.getElem?_eq_some_iff.mp hj).1; omega) hj
        · rw [fwA_no (fun z hz e => hex ⟨z, hz, e⟩)]
          exact c4 u hu (fun j z _ hz e => hex ⟨z, List.mem_of_getElem? hz, e⟩)
      · cases hr'
        refine ⟨by rw [c2 (o + 1) (by omega), b2 (o + 1) (by omega), (f4 u (by omega)).1]; simp, fun a x hx => ?_⟩
        obtain ⟨a1, rfl⟩ := rng_get hx
        refine ⟨by rw [c2 (o + 2) (by omega)]; exact b3 u a hu a1, ?_⟩
        rw [c2 (o + 3) (by omega), b2 (o + 3) (by omega), (f5 (u * 4 + a) (by omega)).2]
        rfl
    refine s_settle e1 (by rw [fwQ_len]; exact hn) e2 (by omega) hn rows (fwQ_full h.1 hT) (fun I4 e4 => ?_)
    exact q I4 (fun c hc => by rw [e4, sI_n _ _ (by omega), c2 c (by omega), b2 c (by omega), f1 c hc]) (settled e1 e2 rows e4)
  · have hz := List.getElem?_eq_getElem (show i < ks.length by omega)
    generalize ks[i] = z at hz
    have hg := gl i z hz
    have kz := kn2.at' hz
    have e57 : I3 57 i = nI (eT k T 0 (wdW z.1)) := by rw [c2 57 (by omega), b2 57 (by omega), f1 57 (by omega)]; exact he i z hz
    rw [if_neg (by rw [leNN (by omega) (by omega)]; omega), vpN (by omega), nI_clamp (by omega), e57, vpN (by omega), nI_clamp (by omega), show I3 54 i = nI z.2 by rw [c2 54 (by omega)]; exact kz.2.2.2.2.1]
    refine ⟨by omega, by omega, by omega, fun I4 e4 t et => ?_⟩
    rw [et, nI_1 i]
    have m : ∀ u, I4 (o + 4) u = if u = eT k T 0 (wdW z.1) then nI z.2 else I3 (o + 4) u := fun u => by rw [e4, sI_s, upd_at]
    refine ih2 (i + 1) I4 ⟨by omega, fun c hc => by rw [e4, sI_n _ _ hc, c2 c hc], fun j y hj hy => ?_, fun u hu hno => ?_⟩ (by omega)
    · rw [m]
      by_cases e : eT k T 0 (wdW y.1) = eT k T 0 (wdW z.1)
      · rw [if_pos e]
        by_cases e2 : y.2 = z.2
        · rw [e2]
        · exact absurd e (hR y (List.mem_of_getElem? hy) z (List.mem_of_getElem? hz) e2)
      · rw [if_neg e]
        by_cases hji : j = i
        · subst hji; rw [hz] at hy; cases hy; exact absurd rfl e
        · exact c3 j y (by omega) hy
    · rw [m, if_neg (fun e => hno i z (by omega) hz e.symm)]
      exact c4 u hu (fun j y hj hy => hno j y (by omega) hy)
theorem S_fewest {x : Int32} {I : MI} {J : MJ} {σ : SG} {Q : Int32 → MI → MJ → Prop} (h : AbsS I J σ) (q : KS I J (opFewest x σ) Q) : f_School_fewest x I J Q := by
  unfold f_School_fewest f_School_fewest_b21 f_School_fewest_b41
  unfold opFewest at q
  have hk := h.2.2.2.1
  have h12 := hk.1.1
  rcases plc_cases x with ⟨t, ht, rfl, et⟩ | ⟨hb, et⟩
  · rw [et] at q
    simp only at q
    rw [s_placeFaultN ht, if_pos rfl, hk.2.1]
    by_cases h0 : σ.2.2.2.2.length = 0
    · rw [if_pos h0] at q
      rw [if_pos (by rw [h0]; rfl), if_neg (by decide), if_neg (by decide)]
      exact KS.ref q h
    · rw [if_neg h0] at q
      rw [if_neg (nI_ne0 (by omega) (by omega)), if_pos rfl]
      unfold f_Known_makeFewest
      refine s_signs hk (fun k hkk => ?_)
      rw [kK_eq hkk] at q
      have hs := hkk.2.2.1
      refine s_unl hk (fun d hd => s_sort hk (fun I1 f1 o1 => ?_))
      have hk1 : KnS I1 J σ.2.2.2.2 := by
        unfold KnS at *
        rw [f1 52 (by decide), f1 54 (by decide), f1 56 (by decide)]
        exact hk
      have kpA : ∀ I2, kpS I1 I2 → (∀ i, (i < 55 ∨ (55 < i ∧ i < 57) ∨ 59 < i) → I2 i = I i) := fun I2 kp i hi => by rw [kp i (by omega) (by omega) (by omega), f1 i (by omega)]
      have abs2 : ∀ I2, kpS I1 I2 → AbsS I2 J σ := fun I2 kp => h.scr (fun i hi => kpA I2 kp i (by omega)) (fun _ _ => rfl) (h.2.2.2.2.kp ⟨by rw [kpA I2 kp 2 (by omega)], kpA I2 kp 4 (by omega), kpA I2 kp 5 (by omega)⟩)
      refine lp2 (fun f (n : Nat) (I2 : MI) => f_Known_makeFewest_L17 (nI k) (nI d) _ _ f (nI n) I2 J) (fun n I2 => 1 ≤ n ∧ n ≤ 6 ∧ kpS I1 I2 ∧ fwS σ.2.2.2.2 k 7 1 = fwS σ.2.2.2.2 k (8 - n) n) (fun n _ => 7 - n) ?_ 1 I1 ⟨Nat.le_refl _, by decide, kpS.rf, rfl⟩
      rintro f n I2 ⟨b1, b2, b3, b4⟩ ih
      have h8 : 8 - n = (7 - n) + 1 := by omega
      rw [h8] at b4
      unfold f_Known_makeFewest_L17
      rw [if_neg (by rw [l14, ltNN (by decide) (by omega)]; omega)]
      refine s_few b1 (by omega) (by have := hkk.2.1; omega) (fun hfew => ?_) (fun hno => ?_)
      · rw [if_neg (by decide)]
        have hn5 : n ≤ 5 := by
          by_cases hx : n ≤ 5
          · exact hx
          · exfalso
            have e6 : n = 6 := by omega
            subst e6
            have h1 : 6 ^ 6 ≤ 6 ^ (6 * k) := Nat.pow_le_pow_right (by decide) (by have := hkk.1; omega)
            have h2 : (6 : Nat) ^ 6 = 46656 := by decide
            omega
        have hf' : ¬ 20000 < n ^ (n * k) := by omega
        have next : (¬ ∃ T, fstT σ.2.2.2.2 k n T) → ∀ I3, kpS I1 I3 → f_Known_makeFewest_b59 (nI n) (f_Known_makeFewest_L17 (nI k) (nI d) (fun (z49_x4 : Int32) (I : MI) (J : MJ) => f_Known_writeTable 60 z49_x4 (nI k) I J (fun I54 J54 => (if (1 : Int32) = 0 then (if (5 : Int32) = 0 then f_School_layMachine 60 (nI t) I54 J54 (fun r57 I57 J57 => Q r57 I57 J57) else f_School_refuse (5 : Int32) I54 J54 (fun r47 I47 J47 => Q r47 I47 J47)) else (if (0 : Int32) = 0 then f_School_layMachine 60 (nI t) I54 J54 (fun r57 I57 J57 => Q r57 I57 J57) else f_School_refuse (0 : Int32) I54 J54 (fun r47 I47 J47 => Q r47 I47 J47))))) (fun (I : MI) (J : MJ) => (if (0 : Int32) = 0 then (if (5 : Int32) = 0 then f_School_layMachine 60 (nI t) I J (fun r57 I57 J57 => Q r57 I57 J57) else f_School_refuse (5 : Int32) I J (fun r47 I47 J47 => Q r47 I47 J47)) else (if (0 : Int32) = 0 then f_School_layMachine 60 (nI t) I J (fun r57 I57 J57 => Q r57 I57 J57) else f_School_refuse (0 : Int32) I J (fun r47 I47 J47 => Q r47 I47 J47)))) f) I3 J := fun hx I3 kp3 => by
          unfold f_Known_makeFewest_b59
          intro u eu
          rw [eu, nI_1 n]
          refine ih (n + 1) I3 ⟨by omega, by omega, kp3, ?_⟩ (by omega)
          rw [b4, fwS_n hf' hx, show 8 - (n + 1) = 7 - n by omega]
        by_cases hnd : n < d
        · rw [if_pos (by have := hd.1; rw [ltNN (by omega) (by omega)]; exact hnd)]
          refine next (fun ⟨T, hT⟩ => ?_) I2 b3
          have := hd.2 k n T hT.1 (by omega) hs hT.2.1
          omega
        · rw [if_neg (by have := hd.1; rw [ltNN (by omega) (by omega)]; exact hnd)]
          refine s_find (b3.kn hk1) (b3.or o1) (by omega) (by omega) hkk.2.1 hfew hs (fun T I3 hT kp3 tb3 e3 => ?_) (fun hno I3 kp3 => ?_)
          · rw [if_neg (by decide)]
            have kp13 := b3.tr kp3
            refine s_write (by decide) (kp13.kn hk1) (by omega) (by omega) hkk.2.1 hT.1 hT.2.1 hs tb3 e3 (fun I4 g1 r4 => ?_)
            rw [b4, fwS_s (by omega) hs hf' hT] at q
            simp only at q
            rw [if_neg (by decide), if_pos rfl]
            have hA4 : AbsS I4 J σ := h.scr (fun i hi => by rw [g1 i (by omega), kpA I3 kp13 i (by omega)]) (fun _ _ => rfl) (h.2.2.2.2.kp ⟨by rw [g1 2 (by omega), kpA I3 kp13 2 (by omega)], by rw [g1 4 (by omega), kpA I3 kp13 4 (by omega)], by rw [g1 5 (by omega), kpA I3 kp13 5 (by omega)]⟩)
            exact s_lay (by decide) ht r4 (fwM_VL hk.1 (by omega) (by omega) hkk.1 hkk.2.1 hT.1).1 hA4 ⟨fun i hi => by rw [g1 i (by omega), kpA I3 kp13 i (by omega)], fun _ _ => rfl⟩ q
          · rw [if_pos rfl]
            exact next (fun ⟨T, hT⟩ => hno T hT.1 hT.2.1) I3 (b3.tr kp3)
      · rw [if_pos rfl]
        rw [b4, fwS_0 hno] at q
        simp only at q
        rw [if_pos rfl, if_neg (by decide)]
        exact KS.ref' q ⟨fun i hi => kpA I2 b3 i (by omega), fun _ _ => rfl⟩ (abs2 I2 b3)
  · rw [et] at q
    rw [s_placeFaultB hb, if_neg (by decide), if_neg (by decide), if_neg (by decide)]
    exact KS.ref q h
