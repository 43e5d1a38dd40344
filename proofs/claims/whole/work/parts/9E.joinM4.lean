/-! the reference's classes of sets -/
def GJ (I : MI) (n K : Nat) (to : Nat → Nat → Option Nat) (an : Nat → Nat) : Prop := I 177 32 = nI n ∧ n ≤ 300 ∧ 1 ≤ n ∧ K ≤ 4 ∧ (∀ i, i < n → an i ≤ 1 ∧ I 208 i = nI (an i)) ∧ ∀ i a, i < n → a < K → ∃ j : Nat, to i a = some j ∧ j < n ∧ I 207 (4 * i + a) = nI j
def alJ (to : Nat → Nat → Option Nat) (K : Nat) (R : Nat → Nat → Prop) (i j : Nat) : Prop := R i j ∧ ∀ a, a < K → opR R (to i a) (to j a)
theorem alJ_e {to : Nat → Nat → Option Nat} {K : Nat} {R : Nat → Nat → Prop} (h : Eqv R) : Eqv (alJ to K R) := by
  obtain ⟨o1, o2, o3⟩ := opR_e h
  exact ⟨fun i => ⟨h.1 i, fun a _ => o1 _⟩, fun i j g => ⟨h.2.1 _ _ g.1, fun a ha => o2 _ _ (g.2 a ha)⟩, fun i j k g g' => ⟨h.2.2 _ _ _ g.1 g'.1, fun a ha => o3 _ _ _ (g.2 a ha) (g'.2 a ha)⟩⟩
def SC (I : MI) (n : Nat) (R : Nat → Nat → Prop) : Prop := ∀ i j, i < n → j < n → (I 209 i = I 209 j ↔ R i j)
/-- what the classes change -/
def ClF (I I' : MI) : Prop := ∀ i, i ≠ 209 → i ≠ 210 → I' i = I i
theorem ClF.rf {I : MI} : ClF I I := fun _ _ _ => rfl
theorem ClF.tr {I I' I'' : MI} (h : ClF I I') (h' : ClF I' I'') : ClF I I'' := fun i a b => (h' i a b).trans (h i a b)
theorem ClF.gj {I I' : MI} {n K : Nat} {to : Nat → Nat → Option Nat} {an : Nat → Nat} (h : ClF I I') (g : GJ I n K to an) : GJ I' n K to an := by
  unfold GJ at *
  rw [h 177 (by decide) (by decide), h 207 (by decide) (by decide), h 208 (by decide) (by decide)]
  exact g
theorem m_one {i j n K : Nat} {to : Nat → Nat → Option Nat} {an : Nat → Nat} {R : Nat → Nat → Prop} {I : MI} {J : MJ} {Q : Int32 → MI → MJ → Prop} (g : GJ I n K to an) (sc : SC I n R) (hi : i < n) (hj : j < n) (q1 : alJ to K R i j → Q 1 I J) (q0 : ¬ alJ to K R i j → Q 0 I J) : f_Model_areOne (nI i) (nI j) (nI K) I J Q := by
  obtain ⟨g1, g2, g0, g4, g5, g6⟩ := g
  unfold f_Model_areOne
  rw [vpN (by omega), vpN (by omega), nI_clamp (by omega), nI_clamp (by omega)]
  refine ⟨by omega, by omega, ?_⟩
  have core : ∀ b : Bool, (b = true ↔ R i j) → f_Model_areOne_b20 (nI i) (nI j) (nI K) (if b = true then 1 else 0) Q I J := by
    intro b hb
    unfold f_Model_areOne_b20
    refine lp2 (fun n' (b : Bool) (a : Nat) => f_Model_areOne_L25 (nI i) (nI j) (nI K) _ n' (if b = true then 1 else 0) (nI a) I J) (fun b a => a ≤ K ∧ (b = true → R i j ∧ ∀ c, c < a → opR R (to i c) (to j c)) ∧ (b = false → ¬ alJ to K R i j)) (fun _ a => 5 - a) ?_ b 0 ⟨Nat.zero_le _, (fun h => ⟨hb.mp h, fun c hc => absurd hc (Nat.not_lt_zero _)⟩), (fun h hh => by have := hb.mpr hh.1; rw [h] at this; cases this)⟩
    rintro n' b a ⟨b1, b2, b3⟩ ih
    unfold f_Model_areOne_L25
    by_cases ea : a = K
    · subst ea
      rw [if_pos (by rw [leNN (by omega) (by omega)]; exact Nat.le_refl _)]
      cases b with
      | true => exact ⟨Or.inr rfl, q1 (b2 rfl)⟩
      | false => exact ⟨Or.inl rfl, q0 (b3 rfl)⟩
    · rw [if_neg (by rw [leNN (by omega) (by omega)]; omega)]
      cases b with
      | false => rw [if_pos (show (if false = true then (1 : Int32) else 0) = 0 from rfl)]; exact ⟨Or.inl rfl, q0 (b3 rfl)⟩
      | true =>
        obtain ⟨x, x1, x2, x3⟩ := g6 i a hi (by omega)
        obtain ⟨y, y1, y2, y3⟩ := g6 j a hj (by omega)
        rw [if_neg (by decide), l4, pk_mul, pk_mul, nI_add, nI_add, vpN (by omega), vpN (by omega), nI_clamp (by omega), nI_clamp (by omega), x3, y3, vpN (by omega), vpN (by omega), nI_clamp (by omega), nI_clamp (by omega)]
        refine ⟨by omega, by omega, by omega, by omega, ?_⟩
        unfold f_Model_areOne_b76
        rw [nI_1, forall_eq, forall_eq]
        obtain ⟨r1, r2⟩ := b2 rfl
        by_cases c : R x y
        · rw [if_pos ((sc x y x2 y2).mpr c)]
          refine ih true (a + 1) ⟨by omega, (fun _ => ⟨r1, fun d hd => ?_⟩), (fun h => by cases h)⟩ (by omega)
          by_cases hda : d = a
          · subst hda; rw [x1, y1]; exact c
          · exact r2 d (by omega)
        · rw [if_neg (fun h => c ((sc x y x2 y2).mp h))]
          refine ih false (a + 1) ⟨by omega, (fun h => by cases h), fun _ hh => ?_⟩ (by omega)
          have := hh.2 a (by omega)
          rw [x1, y1] at this
          exact c this
  by_cases c : R i j
  · rw [if_pos ((sc i j hi hj).mpr c)]
    exact core true ⟨fun _ => c, fun _ => rfl⟩
  · rw [if_neg (fun h => c ((sc i j hi hj).mp h))]
    exact core false ⟨(fun h => by cases h), fun h => absurd h c⟩
theorem m_round {n K : Nat} {to : Nat → Nat → Option Nat} {an : Nat → Nat} {R : Nat → Nat → Prop} {I : MI} {J : MJ} {kk : Int32 → MI → MJ → Prop} (g : GJ I n K to an) (hR : Eqv R) (sc : SC I n R) (q : ∀ I', ClF I I' → (∀ i, i < n → I' 209 i = nI (cls (alJ to K R) i)) → kk (nI (cr (alJ to K R) n)) I' J) : ∃ f, f_Model_findClasses_L73 (nI K) (fun (z173_x2 : Int32) (I : MI) (J : MJ) => ∃ n, f_Model_findClasses_L176 (fun (I : MI) (J : MJ) => kk z173_x2 I J) n 0 I J) f 0 0 I J := by
  have hA : Eqv (alJ to K R) := alJ_e hR
  have hn := g.2.1
  refine lp2 (fun f (i : Nat) (I1 : MI) => f_Model_findClasses_L73 (nI K) _ f (nI (cr (alJ to K R) i)) (nI i) I1 J) (fun i I1 => i ≤ n ∧ ClF I I1 ∧ I1 209 = I 209 ∧ ∀ j, j < i → I1 210 j = nI (cls (alJ to K R) j)) (fun i _ => n - i) ?_ 0 I ⟨Nat.zero_le _, ClF.rf, rfl, fun j hj => absurd hj (Nat.not_lt_zero _)⟩
  rintro f i I1 ⟨b1, b2, b3, b4⟩ ih
  have g1 := b2.gj g
  unfold f_Model_findClasses_L73
  rw [g1.1]
  by_cases ei : i = n
  · rw [if_pos (by rw [ei, leNN (by omega) (by omega)]; exact Nat.le_refl _)]
    subst ei
    refine lp2 (fun f (j : Nat) (I2 : MI) => f_Model_findClasses_L176 _ f (nI j) I2 J) (fun j I2 => j ≤ i ∧ ClF I I2 ∧ I2 210 = I1 210 ∧ ∀ l, l < j → I2 209 l = nI (cls (alJ to K R) l)) (fun j _ => i - j) ?_ 0 I1 ⟨Nat.zero_le _, b2, rfl, fun j hj => absurd hj (Nat.not_lt_zero _)⟩
    rintro f2 j I2 ⟨c1, c2, c3, c4⟩ ih2
    unfold f_Model_findClasses_L176
    rw [(c2.gj g).1]
    by_cases ej : j = i
    · rw [if_pos (by rw [ej, leNN (by omega) (by omega)]; exact Nat.le_refl _)]
      subst ej
      exact q I2 c2 c4
    · rw [if_neg (by rw [leNN (by omega) (by omega)]; omega), vpN (by omega), nI_clamp (by omega)]
      refine ⟨by omega, by omega, fun I3 e3 t et => ?_⟩
      rw [et, nI_1]
      refine ih2 (j + 1) I3 ⟨by omega, c2.tr (fun l a b => by rw [e3, sI_n _ _ a]), by rw [e3, sI_n _ _ (by decide)]; exact c3, fun l hl => ?_⟩ (by omega)
      rw [e3, sI_s, upd_at, c3]
      by_cases hlj : l = j
      · rw [if_pos hlj, hlj]; exact b4 j (by omega)
      · rw [if_neg hlj]; exact c4 l (by omega)
  · have hi : i < n := by omega
    rw [if_neg (by rw [leNN (by omega) (by omega)]; omega), vpN (by omega), nI_clamp (by omega)]
    refine ⟨by omega, fun I2 e2 => ?_⟩
    have hcli := cls_lt hA hi
    have hcrn := cr_le (alJ to K R) n
    have hcri := cr_le (alJ to K R) i
    refine lp2 (fun f' (j : Nat) (I3 : MI) => f_Model_findClasses_L93 (nI K) (nI i) _ f' (nI j) I3 J) (fun j I3 => j ≤ i ∧ ClF I I3 ∧ I3 209 = I 209 ∧ (∀ l, l < i → I3 210 l = nI (cls (alJ to K R) l)) ∧ ((I3 210 i = -1 ∧ ∀ l, l < j → ¬ alJ to K R i l) ∨ (I3 210 i = nI (cls (alJ to K R) i) ∧ ¬ isRp (alJ to K R) i))) (fun j _ => i + 1 - j) ?_ 0 I2 ⟨Nat.zero_le _, b2.tr (fun l a b => by rw [e2, sI_n _ _ b]), by rw [e2, sI_n _ _ (by decide)]; exact b3, (fun l hl => by rw [e2, sI_s, upd_at, if_neg (by omega)]; exact b4 l hl), Or.inl ⟨by rw [e2, sI_s, pk_us], fun l hl => absurd hl (Nat.not_lt_zero _)⟩⟩
    rintro f2 j I3 ⟨c1, c2, c3, c4, c5⟩ ih2
    unfold f_Model_findClasses_L93 f_Model_findClasses_b139
    rw [vpN (by omega), nI_clamp (by omega)]
    -- what is settled stays
    have done : I3 210 i = nI (cls (alJ to K R) i) → ¬ isRp (alJ to K R) i → f_Model_findClasses_b146 (nI (cr (alJ to K R) i)) (nI i) (f_Model_findClasses_L73 (nI K) (fun (z173_x2 : Int32) (I : MI) (J : MJ) => ∃ n, f_Model_findClasses_L176 (fun (I : MI) (J : MJ) => kk z173_x2 I J) n 0 I J) f) I3 J := fun h hr => by
      unfold f_Model_findClasses_b146 f_Model_findClasses_b167
      rw [vpN (by omega), nI_clamp (by omega), h, if_pos (nI0_le (by omega)), nI_1, forall_eq]
      refine ⟨by omega, ?_⟩
      have := ih (i + 1) I3 ⟨by omega, c2, c3, fun l hl => ?_⟩ (by omega)
      · rw [cr_n hr] at this; exact this
      · by_cases hli : l = i
        · rw [hli]; exact h
        · exact c4 l (by omega)
    by_cases ej : j = i
    · rw [if_pos (by rw [ej, leNN (by omega) (by omega)]; exact Nat.le_refl _)]
      subst ej
      rcases c5 with ⟨d1, d2⟩ | ⟨d1, d2⟩
      · have hrep : isRp (alJ to K R) j := fun l hl hh => d2 l hl (hA.2.1 _ _ hh)
        unfold f_Model_findClasses_b146 f_Model_findClasses_b167
        rw [vpN (by omega), nI_clamp (by omega), d1, if_neg (by decide)]
        refine ⟨by omega, by omega, fun I4 e4 t et t' et' => ?_⟩
        rw [et, et', nI_1, nI_1]
        have := ih (j + 1) I4 ⟨by omega, c2.tr (fun l a b => by rw [e4, sI_n _ _ b]), by rw [e4, sI_n _ _ (by decide)]; exact c3, fun l hl => ?_⟩ (by omega)
        · rw [cr_p hrep] at this; exact this
        · rw [e4, sI_s, upd_at]
          by_cases hlj : l = j
          · rw [if_pos hlj, hlj, cls_rep hA hrep]
          · rw [if_neg hlj]; exact c4 l (by omega)
      · exact done d1 d2
    · rw [if_neg (by rw [leNN (by omega) (by omega)]; omega)]
      refine ⟨by omega, ?_⟩
      rcases c5 with ⟨d1, d2⟩ | ⟨d1, d2⟩
      · rw [d1, if_neg (by decide)]
        have sc3 : SC I3 n R := fun a b ha hb => by rw [c3]; exact sc a b ha hb
        refine m_one (c2.gj g) sc3 hi (by omega) (fun h1 => ?_) (fun h0 => ?_)
        · rw [if_neg (by decide), vpN (by omega), nI_clamp (by omega)]
          refine ⟨by omega, by omega, fun I4 e4 t et => ?_⟩
          rw [et, nI_1 j]
          have hcl : cls (alJ to K R) j = cls (alJ to K R) i := (cls_eq hA).mpr (hA.2.1 _ _ h1)
          refine ih2 (j + 1) I4 ⟨by omega, c2.tr (fun l a b => by rw [e4, sI_n _ _ b]), by rw [e4, sI_n _ _ (by decide)]; exact c3, (fun l hl => by rw [e4, sI_s, upd_at, if_neg (by omega)]; exact c4 l hl), Or.inr ⟨by rw [e4, sI_s, pk_us, c4 j (by omega), hcl], fun hr => hr j (by omega) (hA.2.1 _ _ h1)⟩⟩ (by omega)
        · rw [if_pos rfl]
          refine ⟨by omega, fun I4 e4 t et => ?_⟩
          rw [et, nI_1 j]
          refine ih2 (j + 1) I4 ⟨by omega, c2.tr (fun l a b => by rw [e4, sI_n _ _ b]), by rw [e4, sI_n _ _ (by decide)]; exact c3, (fun l hl => by rw [e4, sI_s, upd_at, if_neg (by omega)]; exact c4 l hl), Or.inl ⟨by rw [e4, sI_s, pk_us], fun l hl => ?_⟩⟩ (by omega)
          by_cases hlj : l = j
          · rw [hlj]; exact h0
          · exact d2 l (by omega)
      · rw [d1, if_pos (nI0_le (by omega))]
        exact done d1 d2
theorem m_classes {n K : Nat} {to : Nat → Nat → Option Nat} {an : Nat → Nat} {I : MI} {J : MJ} {Q : Int32 → MI → MJ → Prop} (g : GJ I n K to an) (q : ∀ m I', ClF I I' → m ≤ n → (14 < m ↔ 14 < cr (eqN to an K) n) → (m ≤ 14 → m = cr (eqN to an K) n ∧ ∀ i, i < n → I' 209 i = nI (cls (eqN to an K) i)) → Q (nI m) I' J) : f_Model_findClasses (nI K) I J Q := by
  obtain ⟨g1, g2, g0, g4, g5, g6⟩ := id g
  have hE := eqN_e to an K
  have hc : ∀ i a j, i < n → a < K → to i a = some j → j < n := fun i a j hi ha h => by
    obtain ⟨x, x1, x2, _⟩ := g6 i a hi ha
    rw [x1] at h; cases h; exact x2
  have h7 : ∀ i, i < n → an i ≤ 7 := fun i hi => by have := (g5 i hi).1; omega
  unfold f_Model_findClasses
  refine lp2 (fun f (i : Nat) (I1 : MI) => f_Model_findClasses_L7 _ f (nI i) I1 J) (fun i I1 => i ≤ n ∧ ClF I I1 ∧ ∀ j, j < i → I1 209 j = nI (an j)) (fun i _ => n - i) ?_ 0 I ⟨Nat.zero_le _, ClF.rf, fun j hj => absurd hj (Nat.not_lt_zero _)⟩
  rintro f i I1 ⟨b1, b2, b3⟩ ih
  unfold f_Model_findClasses_L7 f_Model_findClasses_b37
  rw [(b2.gj g).1]
  by_cases ei : i = n
  rotate_left
  · have a1 := (g5 i (by omega)).1
    rw [if_neg (by rw [leNN (by omega) (by omega)]; omega), vpN (by omega), nI_clamp (by omega), ((b2.gj g).2.2.2.2.1 i (by omega)).2, nI_1]
    refine ⟨by omega, ?_⟩
    have go : ∀ v : Nat, v = an i → i < 512 ∧ ∀ I37 : MI, I37 = sI I1 209 (upd (I1 209) i (nI v)) → ∀ t38 : Int32, t38 = nI (i + 1) → f_Model_findClasses_L7 (fun (I : MI) (J : MJ) => ∃ n, f_Model_findClasses_L47 (nI K) (fun (z211_x2 : Int32) (I : MI) (J : MJ) => Q z211_x2 I J) n 0 (-1) 0 I J) f t38 I37 J := fun v hv => by
      refine ⟨by omega, fun I2 e2 t et => ?_⟩
      rw [et]
      refine ih (i + 1) I2 ⟨by omega, b2.tr (fun l a b => by rw [e2, sI_n _ _ a]), fun j hj => ?_⟩ (by omega)
      rw [e2, sI_s, upd_at]
      by_cases hji : j = i
      · rw [if_pos hji, hji, hv]
      · rw [if_neg hji]; exact b3 j (by omega)
    by_cases z : an i = 0
    · rw [if_pos (by rw [z]; rfl)]; exact go 0 z.symm
    · rw [if_neg (nI_ne0 (by omega) (by omega))]; exact go 1 (by omega)
  subst ei
  rw [if_pos (by rw [leNN (by omega) (by omega)]; exact Nat.le_refl _)]
  -- the rounds
  refine lp4 (fun f (x2 x3 : Int32) (t : Nat) (I2 : MI) => f_Model_findClasses_L47 (nI K) _ f x2 x3 (nI t) I2 J) (fun x2 x3 t I2 => ClF I I2 ∧ ∃ R : Nat → Nat → Prop, Eqv R ∧ SC I2 i R ∧ (∀ x y, x < i → y < i → R x y → an x = an y) ∧ (∀ x y, x < i → y < i → eqN to an K x y → R x y) ∧ ((t = 0 ∧ x2 = 0 ∧ x3 = -1) ∨ (1 ≤ t ∧ ∃ (Rp : Nat → Nat → Prop) (c : Nat), R = alJ to K Rp ∧ Eqv Rp ∧ (∀ x y, x < i → y < i → Rp x y → an x = an y) ∧ x2 = nI (cr R i) ∧ (∀ j, j < i → I2 209 j = nI (cls R j)) ∧ x3 = nI c ∧ (c = 0 ∨ c = cr Rp i) ∧ t ≤ c + 1 ∧ c ≤ 14))) (fun _ _ t _ => 20 - t) ?_ 0 (-1) 0 I1 ⟨b2, fun x y => an x = an y, ⟨fun _ => rfl, fun _ _ h => h.symm, fun _ _ _ h h' => h.trans h'⟩, (fun x y hx hy => ?_), (fun x y _ _ h => h), (fun x y _ _ h => h [] (by simp)), Or.inl ⟨rfl, rfl, rfl⟩⟩
  rotate_left
  · rw [b3 x hx, b3 y hy]
    have := (g5 x hx).1
    have := (g5 y hy).1
    exact nI_eq (by omega) (by omega)
  rintro f2 x2 x3 t I2 ⟨c1, R, c2, c3, c4, c5, c6⟩ ih2
  unfold f_Model_findClasses_L47
  have hA : Eqv (alJ to K R) := alJ_e c2
  have hsub : ∀ x y, x < i → y < i → eqN to an K x y → alJ to K R x y := fun x y hx hy h => ⟨c5 x y hx hy h, fun a ha => opR_mono c5 (fun k hk => hc x a k hx ha hk) (fun k hk => hc y a k hy ha hk) ((eqN_al h7 hc hx hy h).2 a ha)⟩
  have hcR := cr_le R i
  have hcA := cr_le (alJ to K R) i
  -- one round more
  have step : (∀ v : Nat, x2 = nI v → v ≤ 14 → (v = 0 ∨ v = cr R i) → t ≤ v → t < 20 → ∃ n, f_Model_findClasses_L73 (nI K) (fun (z173_x2 : Int32) (I : MI) (J : MJ) => ∃ n, f_Model_findClasses_L176 (fun (I : MI) (J : MJ) => ∀ t205 : Int32, t205 = nI t + 1 → f_Model_findClasses_L47 (nI K) (fun (z211_x2 : Int32) (I : MI) (J : MJ) => Q z211_x2 I J) f2 z173_x2 x2 t205 I J) n 0 I J) n 0 0 I2 J) := by
    intro v hv v14 hvc htv ht
    refine m_round (c1.gj g) c2 c3 (fun I3 e3 h3 => ?_)
    rw [nI_1, forall_eq]
    refine ih2 (nI (cr (alJ to K R) i)) x2 (t + 1) I3 ⟨c1.tr e3, alJ to K R, hA, fun x y hx hy => ?_, (fun x y hx hy h => c4 x y hx hy h.1), hsub, Or.inr ⟨by omega, R, v, rfl, c2, c4, rfl, h3, hv, hvc, by omega, v14⟩⟩ (by omega)
    rw [h3 x hx, h3 y hy, nI_eq (by have := cls_lt hA hx; omega) (by have := cls_lt hA hy; omega)]
    exact cls_eq hA
  rcases c6 with ⟨d1, d2, d3⟩ | ⟨d1, Rp, c, d2, d3, d4, d5, d6, d7, d8, d9, d10⟩
  · subst d1 d2 d3
    rw [if_neg (by decide), if_neg (by decide), if_neg (by decide)]
    exact step 0 rfl (by decide) (Or.inl rfl) (Nat.le_refl _) (by decide)
  · have hcr1 := cr_1 (R := R) g0
    have hfine : ∀ x y, x < i → y < i → R x y → Rp x y := fun x y hx hy h => by rw [d2] at h; exact h.1
    have hle := cr_fine (n := i) hfine
    rw [d5, d7]
    by_cases es : cr R i = c
    · rw [if_pos (by rw [es])]
      have hcp : cr R i = cr Rp i := by omega
      have hback := fine_same d3 c2 hfine hcp
      have hst : ∀ x y, x < i → y < i → Rp x y → alN to an K Rp x y := fun x y hx hy h => by
        have := hback x y hx hy h
        rw [d2] at this
        exact ⟨d4 x y hx hy h, this.2⟩
      have heq : ∀ x y, x < i → y < i → (R x y ↔ eqN to an K x y) := fun x y hx hy => ⟨fun h w hw => al_eqN hc hst w x y hx hy (hfine x y hx hy h) hw, c5 x y hx hy⟩
      have e1 := rel_cr heq
      refine q (cr R i) I2 c1 hcR (by rw [e1]) (fun _ => ⟨e1, fun j hj => by rw [d6 j hj, rel_cls c2 hE heq hj]⟩)
    · rw [if_neg (by rw [eqNN (by omega) (by omega)]; exact es)]
      by_cases e14 : 14 < cr R i
      · rw [if_pos (by rw [l14, ltNN (by decide) (by omega)]; exact e14)]
        have := cr_fine (R := R) (R' := eqN to an K) c5
        exact q (cr R i) I2 c1 hcR ⟨fun _ => by omega, fun _ => e14⟩ (fun h => by omega)
      · rw [if_neg (by rw [l14, ltNN (by decide) (by omega)]; exact e14), if_neg (by rw [l512, leNN (by decide) (by omega)]; omega)]
        have := step (cr R i) d5 (by omega) (Or.inr rfl) (by omega) (by omega)
        rw [d5] at this
        exact this
