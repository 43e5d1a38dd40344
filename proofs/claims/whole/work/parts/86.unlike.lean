/-! the reference's unlike pairs -/
def GrM (I : MI) (m n K : Nat) (to : Nat → Nat → Option Nat) (an : Nat → Nat) : Prop := I 177 16 = nI n ∧ n ≤ 14 ∧ K ≤ 4 ∧ (∀ i, i < n → an i ≤ 7 ∧ ∃ s, s < 14 ∧ I 191 i = nI s ∧ I 187 (14 * m + s) = nI (an i)) ∧ ∀ i a, i < n → a < 4 → I 194 (4 * i + a) = enO (to i a) ∧ (∀ j, to i a = some j → j < n) ∧ (K ≤ a → to i a = none)
def UnM (I : MI) (n : Nat) (U : Nat → Nat → Bool) : Prop := ∀ i j, i < n → j < n → I 195 (16 * i + j) = if U i j then 1 else 0
def tld (to : Nat → Nat → Option Nat) (U : Nat → Nat → Bool) (i j a : Nat) : Bool := match to i a, to j a with
  | none, none => false
  | some x, some y => U x y
  | _, _ => true
def ctU (U : Nat → Nat → Bool) : Nat := sm (fun k => if U (k / 16) (k % 16) then 1 else 0) 256
theorem sm_le {f g : Nat → Nat} : ∀ {n : Nat}, (∀ k, k < n → f k ≤ g k) → sm f n ≤ sm g n
  | 0, _ => Nat.le_refl _
  | n + 1, h => by
    have := sm_le (f := f) (g := g) (n := n) (fun k hk => h k (by omega))
    have := h n (by omega)
    simp only [sm]; omega
theorem sm_lt {f g : Nat → Nat} : ∀ {n : Nat}, (∀ k, k < n → f k ≤ g k) → (∃ k, k < n ∧ f k < g k) → sm f n < sm g n
  | 0, _, ⟨k, hk, _⟩ => absurd hk (by omega)
  | n + 1, h, ⟨k, hk, hl⟩ => by
    have h1 := sm_le (f := f) (g := g) (n := n) (fun k hk => h k (by omega))
    have h2 := h n (by omega)
    simp only [sm]
    by_cases e : k = n
    · subst e; omega
    · have := sm_lt (f := f) (g := g) (n := n) (fun k hk => h k (by omega)) ⟨k, by omega, hl⟩
      omega
theorem ct_196 {U : Nat → Nat → Bool} (h : ∀ i j, U i j = true → i < 14 ∧ j < 14) : ctU U ≤ 196 := by
  have h1 : ctU U ≤ sm (fun k => if k / 16 < 14 ∧ k % 16 < 14 then 1 else 0) 256 := by
    refine sm_le (fun k _ => ?_)
    cases hu : U (k / 16) (k % 16) with
    | false => simp
    | true => simp [h _ _ hu]
  have h2 : sm (fun k => if k / 16 < 14 ∧ k % 16 < 14 then 1 else 0) 256 = 196 := by decide +kernel
  omega
def upU (U : Nat → Nat → Bool) (i j : Nat) (b : Bool) : Nat → Nat → Bool := fun x y => if x = i ∧ y = j then b else U x y
theorem ct_up {U : Nat → Nat → Bool} {i j : Nat} (hi : i < 16) (hj : j < 16) (h : U i j = false) : ctU U < ctU (upU U i j true) := by
  refine sm_lt (fun k _ => ?_) ⟨16 * i + j, by omega, ?_⟩
  · cases h' : U (k / 16) (k % 16) with
    | false => simp
    | true =>
      have : upU U i j true (k / 16) (k % 16) = true := by
        unfold upU
        split
        · rfl
        · exact h'
      simp [this]
  · rw [show (16 * i + j) / 16 = i by omega, show (16 * i + j) % 16 = j by omega, h]
    simp [upU]
theorem m_told {m n K i j a : Nat} {to : Nat → Nat → Option Nat} {an : Nat → Nat} {U : Nat → Nat → Bool} {I : MI} {J : MJ} {Q : Int32 → MI → MJ → Prop} (g : GrM I m n K to an) (hU : UnM I n U) (hi : i < n) (hj : j < n) (ha : a < 4) : f_Model_areToldBy (nI i) (nI j) (nI a) I J Q ↔ Q (if tld to U i j a then 1 else 0) I J := by
  obtain ⟨g1, g2, g3, g4, g5⟩ := g
  obtain ⟨c1, c2, _⟩ := g5 i a hi ha
  obtain ⟨d1, d2, _⟩ := g5 j a hj ha
  unfold f_Model_areToldBy f_Model_areToldBy_b34 f_Model_areToldBy_b44 f_Model_areToldBy_b68 tld
  rw [l4, pk_mul, pk_mul, nI_add, nI_add, vpN (by omega), vpN (by omega), nI_clamp (by omega), nI_clamp (by omega), c1, d1, forall_eq, forall_eq]
  have b1 : 4 * i + a < 228 := by omega
  have b2 : 4 * j + a < 228 := by omega
  cases hx : to i a with
  | none =>
    cases hy : to j a with
    | none => exact ⟨fun h => h.2.2, fun h => ⟨b1, b2, h⟩⟩
    | some y =>
      have := d2 y hy
      rw [if_neg (show ¬ (0 : Int32) ≤ enO none by decide), if_pos (show (0 : Int32) ≤ enO (some y) from nI0_le (by omega)), if_neg (by decide)]
      exact ⟨fun h => h.2.2, fun h => ⟨b1, b2, h⟩⟩
  | some x =>
    have hxn := c2 x hx
    cases hy : to j a with
    | none =>
      rw [if_pos (show (0 : Int32) ≤ enO (some x) from nI0_le (by omega)), if_neg (show ¬ (0 : Int32) ≤ enO none by decide), if_neg (by decide)]
      exact ⟨fun h => h.2.2, fun h => ⟨b1, b2, h⟩⟩
    | some y =>
      have hyn := d2 y hy
      rw [if_pos (show (0 : Int32) ≤ enO (some x) from nI0_le (by omega)), if_pos (show (0 : Int32) ≤ enO (some y) from nI0_le (by omega)), if_pos rfl, if_neg (show ¬ enO (some x) < 0 from nI0_lt (by omega)), show enO (some x) = nI x from rfl, show enO (some y) = nI y from rfl, l16, pk_mul, nI_add, vpN (by omega), nI_clamp (by omega), hU x y hxn hyn]
      have b3 : 16 * x + y < 256 := by omega
      show _ ↔ Q (if U x y then 1 else 0) I J
      cases hu : U x y with
      | false => exact ⟨fun h => h.2.2.2, fun h => ⟨b1, b2, b3, h⟩⟩
      | true => exact ⟨fun h => h.2.2.2, fun h => ⟨b1, b2, b3, h⟩⟩
theorem tld_s {m n K i j a : Nat} {to : Nat → Nat → Option Nat} {an : Nat → Nat} {U : Nat → Nat → Bool} {I : MI} (g : GrM I m n K to an) (hs : ∀ x y, x < n → y < n → U x y = true → ¬ eqN to an K x y) (hi : i < n) (hj : j < n) (ha : a < 4) (h : tld to U i j a = true) : ¬ eqN to an K i j := by
  obtain ⟨g1, g2, g3, g4, g5⟩ := g
  obtain ⟨c1, c2, c3⟩ := g5 i a hi ha
  obtain ⟨d1, d2, d3⟩ := g5 j a hj ha
  intro he
  have hal := eqN_al (n := n) (fun i hi => (g4 i hi).1) (fun i a k hi ha hk => (g5 i a hi (by omega)).2.1 k hk) hi hj he
  unfold tld at h
  by_cases haK : a < K
  · have ho := hal.2 a haK
    cases hx : to i a with
    | none => cases hy : to j a with
      | none => rw [hx, hy] at h; cases h
      | some y => rw [hx, hy] at ho; exact ho
    | some x => cases hy : to j a with
      | none => rw [hx, hy] at ho; exact ho
      | some y =>
        rw [hx, hy] at h ho
        exact hs x y (c2 x hx) (d2 y hy) h ho
  · rw [c3 (by omega), d3 (by omega)] at h
    cases h
theorem m_unlike {m n K : Nat} {to : Nat → Nat → Option Nat} {an : Nat → Nat} {I : MI} {J : MJ} {Q : MI → MJ → Prop} (hm : m < 20) (g : GrM I m n K to an) (q : ∀ I' (U : Nat → Nat → Bool), (∀ i, i ≠ 195 → I' i = I i) → UnM I' n U → (∀ i j, i < n → j < n → (U i j = false ↔ eqN to an K i j)) → Q I' J) : f_Model_findUnlike (nI m) I J Q := by
  obtain ⟨g1, g2, g3, g4, g5⟩ := id g
  have grk : ∀ I', (∀ i, i ≠ 195 → I' i = I i) → GrM I' m n K to an := fun I' e => by
    unfold GrM
    rw [e 177 (by decide), e 191 (by decide), e 187 (by decide), e 194 (by decide)]
    exact g
  unfold f_Model_findUnlike
  -- first: answers
  refine lp2 (fun f (i : Nat) (I1 : MI) => f_Model_findUnlike_L2 (nI m) _ f (nI i) I1 J) (fun i I1 => i ≤ n ∧ (∀ k, k ≠ 195 → I1 k = I k) ∧ ∀ x y, x < i → y < n → I1 195 (16 * x + y) = if an x ≠ an y then 1 else 0) (fun i _ => n - i) ?_ 0 I ⟨Nat.zero_le _, fun _ _ => rfl, fun x y hx => absurd hx (Nat.not_lt_zero _)⟩
  rintro f i I1 ⟨b1, b2, b3⟩ ih
  unfold f_Model_findUnlike_L2
  rw [b2 177 (by decide), g1]
  by_cases ei : i = n
  · rw [if_pos (show nI n ≤ nI i by rw [ei, leNN (by omega) (by omega)]; omega)]
    subst ei
    -- then: rounds
    refine lp3 (fun f (b : Bool) (r : Nat) (I2 : MI) => f_Model_findUnlike_L87 _ f (if b then 1 else 0) (nI r) I2 J) (fun b r I2 => (∀ k, k ≠ 195 → I2 k = I k) ∧ ∃ U : Nat → Nat → Bool, UnM I2 i U ∧ (∀ x y, U x y = true → x < i ∧ y < i) ∧ (∀ x y, x < i → y < i → U x y = true → ¬ eqN to an K x y) ∧ (∀ x y, x < i → y < i → an x ≠ an y → U x y = true) ∧ r ≤ ctU U + 1 ∧ (b = true → r ≤ ctU U) ∧ (b = false → ∀ x y, x < i → y < i → U x y = false → ∀ a, a < 4 → tld to U x y a = false)) (fun b r _ => if b then 257 - r else 0) ?_ true 0 I1 ⟨b2, fun x y => decide (x < i ∧ y < i ∧ an x ≠ an y), fun x y hx hy => by rw [b3 x y hx hy]; by_cases h : an x = an y <;> simp [h, hx, hy], (fun x y h => by simp at h; exact ⟨h.1, h.2.1⟩), (fun x y hx hy h he => by simp at h; exact h.2.2 (he [] (by simp))), (fun x y hx hy h => by simp [hx, hy, h]), Nat.zero_le _, fun _ => Nat.zero_le _, fun hh => by cases hh⟩
    rintro f2 b r I2 ⟨c1, U, c2, c3, c4, c5, c6, c7, c8⟩ ih2
    unfold f_Model_findUnlike_L87
    have h196 := ct_196 (U := U) (fun x y h => ⟨by have := (c3 x y h).1; omega, by have := (c3 x y h).2; omega⟩)
    cases b with
    | false =>
      rw [if_pos (by decide)]
      have st := c8 rfl
      refine q I2 U c1 c2 (fun x y hx hy => ⟨fun h => ?_, fun h => ?_⟩)
      · refine fun w hw => al_eqN (n := i) (R := fun x y => U x y = false) (fun x a k hx ha hk => (g5 x a hx (by omega)).2.1 k hk) (fun x y hx hy h => ⟨?_, fun a ha => ?_⟩) w x y hx hy h hw
        · by_cases e : an x = an y
          · exact e
          · have h1 : U x y = false := h
            rw [c5 x y hx hy e] at h1; cases h1
        · have := st x y hx hy h a (by omega)
          unfold tld at this
          cases hx' : to x a with
          | none => cases hy' : to y a with
            | none => trivial
            | some z => rw [hx', hy'] at this; cases this
          | some z => cases hy' : to y a with
            | none => rw [hx', hy'] at this; cases this
            | some z' => rw [hx', hy'] at this; exact this
      · cases hu : U x y with
        | false => rfl
        | true => exact absurd h (c4 x y hx hy hu)
    | true =>
      have hr := c7 rfl
      rw [if_neg (by decide), if_neg (show ¬ (256 : Int32) ≤ nI r by rw [l256, leNN (by decide) (by omega)]; omega)]
      -- one round
      refine lp3 (fun f (b : Bool) (x : Nat) (I3 : MI) => f_Model_findUnlike_L103 _ f (if b then 1 else 0) (nI x) I3 J) (fun b x I3 => x ≤ i ∧ (∀ k, k ≠ 195 → I3 k = I k) ∧ ∃ V : Nat → Nat → Bool, UnM I3 i V ∧ (∀ x y, V x y = true → x < i ∧ y < i) ∧ (∀ x y, x < i → y < i → V x y = true → ¬ eqN to an K x y) ∧ (∀ x y, x < i → y < i → an x ≠ an y → V x y = true) ∧ (b = true → ctU U < ctU V) ∧ (b = false → V = U ∧ ∀ x' y, x' < x → y < i → V x' y = false → ∀ a, a < 4 → tld to V x' y a = false)) (fun _ x _ => i - x) ?_ false 0 I2 ⟨Nat.zero_le _, c1, U, c2, c3, c4, c5, (fun hh => by cases hh), fun _ => ⟨rfl, fun x' y hx' => absurd hx' (Nat.not_lt_zero _)⟩⟩
      rintro f3 b x I3 ⟨d1, d2, V, d3, d4, d5, d6, d7, d8⟩ ih3
      unfold f_Model_findUnlike_L103
      rw [d2 177 (by decide), g1]
      by_cases ex : x = i
      · rw [if_pos (show nI i ≤ nI x by rw [ex, leNN (by omega) (by omega)]; omega), nI_1, forall_eq]
        subst ex
        cases b with
        | true => exact ih2 true (r + 1) I3 ⟨d2, V, d3, d4, d5, d6, by have := d7 rfl; omega, fun _ => by have := d7 rfl; omega, fun hh => by cases hh⟩ (by simp only [if_true]; omega)
        | false =>
          obtain ⟨e1, e2⟩ := d8 rfl
          refine ih2 false (r + 1) I3 ⟨d2, V, d3, d4, d5, d6, by rw [e1]; omega, (fun hh => by cases hh), fun _ x y hx hy => e2 x y hx hy⟩ (by simp only [if_true, Bool.false_eq_true, if_false]; omega)
      · rw [if_neg (show ¬ nI i ≤ nI x by rw [leNN (by omega) (by omega)]; omega)]
        have hxi : x < i := by omega
        refine lp3 (fun f (b : Bool) (y : Nat) (I4 : MI) => f_Model_findUnlike_L115 (nI x) _ f (if b then 1 else 0) (nI y) I4 J) (fun b y I4 => y ≤ i ∧ (∀ k, k ≠ 195 → I4 k = I k) ∧ ∃ V : Nat → Nat → Bool, UnM I4 i V ∧ (∀ x y, V x y = true → x < i ∧ y < i) ∧ (∀ x y, x < i → y < i → V x y = true → ¬ eqN to an K x y) ∧ (∀ x y, x < i → y < i → an x ≠ an y → V x y = true) ∧ (b = true → ctU U < ctU V) ∧ (b = false → V = U ∧ (∀ x' y, x' < x → y < i → V x' y = false → ∀ a, a < 4 → tld to V x' y a = false) ∧ ∀ y', y' < y → V x y' = false → ∀ a, a < 4 → tld to V x y' a = false)) (fun _ y _ => i - y) ?_ b 0 I3 ⟨Nat.zero_le _, d2, V, d3, d4, d5, d6, d7, fun hb => ⟨(d8 hb).1, (d8 hb).2, fun y' hy' => absurd hy' (Nat.not_lt_zero _)⟩⟩
        clear d3 d4 d5 d6 d7 d8 V
        rintro f4 b y I4 ⟨d1', d2', V, d3, d4, d5, d6, d7, d8⟩ ih4
        have g4' := grk I4 d2'
        unfold f_Model_findUnlike_L115
        rw [d2' 177 (by decide), g1]
        by_cases ey : y = i
        · rw [if_pos (show nI i ≤ nI y by rw [ey, leNN (by omega) (by omega)]; omega), nI_1, forall_eq]
          subst ey
          refine ih3 b (x + 1) I4 ⟨by omega, d2', V, d3, d4, d5, d6, d7, fun hb => ⟨(d8 hb).1, fun x' y' hx' hy' => ?_⟩⟩ (by omega)
          by_cases hxx : x' = x
          · rw [hxx]; exact (d8 hb).2.2 y' hy'
          · exact (d8 hb).2.1 x' y' (by omega) hy'
        · have hyi : y < i := by omega
          rw [if_neg (show ¬ nI i ≤ nI y by rw [leNN (by omega) (by omega)]; omega), l16, pk_mul, nI_add, vpN (by omega), nI_clamp (by omega), d3 x y hxi hyi, forall_eq]
          refine ⟨by omega, ?_⟩
          refine lp2 (fun f (z : Bool) (a : Nat) => f_Model_findUnlike_L142 (nI x) (nI y) _ f (if z then 1 else 0) (nI a) I4 J) (fun z a => a ≤ 4 ∧ (V x y = true → z = true) ∧ (z = true → V x y = true ∨ ∃ a', a' < 4 ∧ tld to V x y a' = true) ∧ (z = false → ∀ a', a' < a → tld to V x y a' = false)) (fun _ a => 5 - a) ?_ (V x y) 0 ⟨by decide, fun h => h, fun h => Or.inl h, fun _ a' ha' => absurd ha' (Nat.not_lt_zero _)⟩
          rintro f5 z a ⟨a1, a2, a3, a4⟩ ih5
          unfold f_Model_findUnlike_L142
          -- what is done with the result
          have fin : (z = false → ∀ a', a' < 4 → tld to V x y a' = false) → f_Model_findUnlike_b171 (if b then 1 else 0) (nI x) (nI y) (if z then 1 else 0) (f_Model_findUnlike_L115 (nI x) (fun (z220_x2 : Int32) (I : MI) (J : MJ) => ∀ t220 : Int32, t220 = nI x + 1 → f_Model_findUnlike_L103 (fun (z226_x2 : Int32) (I : MI) (J : MJ) => ∀ t226 : Int32, t226 = nI r + 1 → f_Model_findUnlike_L87 (fun (I : MI) (J : MJ) => Q I J) f2 z226_x2 t226 I J) f3 z220_x2 t220 I J) f4) I4 J := by
            intro hz
            unfold f_Model_findUnlike_b171 f_Model_findUnlike_b193 f_Model_findUnlike_b198
            rw [l16, pk_mul, nI_add, vpN (by omega), nI_clamp (by omega), d3 x y hxi hyi]
            have hnar : vp_nar .boolean (if z then 1 else 0) = if z then 1 else 0 := by cases z; exact nar0; exact nar1
            rw [hnar]
            have hun : ∀ I5, I5 = sI I4 195 (upd (I4 195) (16 * x + y) (if z then 1 else 0)) → UnM I5 i (upU V x y z) := by
              intro I5 e5 x' y' hx' hy'
              rw [e5, sI_s, upd_at]
              unfold upU
              by_cases hc : x' = x ∧ y' = y
              · rw [if_pos (by omega), if_pos hc]
              · rw [if_neg (by omega), if_neg hc]; exact d3 x' y' hx' hy'
            have hsame : z = V x y → upU V x y z = V := fun e => by
              funext x' y'
              unfold upU
              split
              · rename_i hc; rw [e, hc.1, hc.2]
              · rfl
            have hfr : ∀ I5, I5 = sI I4 195 (upd (I4 195) (16 * x + y) (if z then 1 else 0)) → ∀ k, k ≠ 195 → I5 k = I k := fun I5 e5 k hk => by rw [e5, sI_n _ _ hk]; exact d2' k hk
            have hin : ∀ x' y', upU V x y z x' y' = true → x' < i ∧ y' < i := fun x' y' h => by
              unfold upU at h
              split at h
              · rename_i hc; rw [hc.1, hc.2]; exact ⟨hxi, hyi⟩
              · exact d4 x' y' h
            have hsd : ∀ x' y', x' < i → y' < i → upU V x y z x' y' = true → ¬ eqN to an K x' y' := fun x' y' hx' hy' h => by
              unfold upU at h
              split at h
              · rename_i hc
                rw [hc.1, hc.2]
                rcases a3 h with h' | ⟨a', h1, h2⟩
                · exact d5 x y hxi hyi h'
                · exact tld_s g4' d5 hxi hyi h1 h2
              · exact d5 x' y' hx' hy' h
            have hup : ∀ x' y', V x' y' = true → upU V x y z x' y' = true := fun x' y' h => by
              unfold upU
              split
              · rename_i hc; rw [hc.1, hc.2] at h; exact a2 h
              · exact h
            have hct : ctU V ≤ ctU (upU V x y z) := sm_le (fun k _ => by
              cases h : V (k / 16) (k % 16) with
              | false => simp
              | true => simp [hup _ _ h])
            have go : ∀ (c : Bool) (I5 : MI), I5 = sI I4 195 (upd (I4 195) (16 * x + y) (if z then 1 else 0)) → (c = true → ctU U < ctU (upU V x y z)) → (c = false → b = false ∧ z = V x y) → f_Model_findUnlike_L115 (nI x) (fun (z220_x2 : Int32) (I : MI) (J : MJ) => ∀ t220 : Int32, t220 = nI x + 1 → f_Model_findUnlike_L103 (fun (z226_x2 : Int32) (I : MI) (J : MJ) => ∀ t226 : Int32, t226 = nI r + 1 → f_Model_findUnlike_L87 (fun (I : MI) (J : MJ) => Q I J) f2 z226_x2 t226 I J) f3 z220_x2 t220 I J) f4 (if c then 1 else 0) (nI (y + 1)) I5 J := by
              intro c I5 e5 hc1 hc2
              refine ih4 c (y + 1) I5 ⟨by omega, hfr I5 e5, upU V x y z, hun I5 e5, hin, hsd, fun x' y' hx' hy' h => hup _ _ (d6 x' y' hx' hy' h), hc1, fun hc => ?_⟩ (by omega)
              obtain ⟨hb, hzv⟩ := hc2 hc
              obtain ⟨k1, k2, k3⟩ := d8 hb
              rw [hsame hzv]
              refine ⟨k1, k2, fun y' hy' hv => ?_⟩
              by_cases hyy : y' = y
              · rw [hyy] at hv ⊢
                exact hz (by rw [hzv]; exact hv)
              · exact k3 y' (by omega) hv
            cases b with
            | true =>
              rw [if_neg (show ¬ (if true = true then (1 : Int32) else 0) = 0 by decide)]
              refine ⟨by omega, fun I5 e5 t et => ?_⟩
              rw [et, nI_1 y]
              exact go true I5 e5 (fun _ => by have := d7 rfl; omega) (fun hh => by cases hh)
            | false =>
              rw [if_pos (show (if false = true then (1 : Int32) else 0) = 0 by decide)]
              refine ⟨by omega, ?_⟩
              by_cases hzv : z = V x y
              · rw [if_pos (by rw [hzv])]
                refine ⟨by omega, fun I5 e5 t et => ?_⟩
                rw [et, nI_1 y]
                exact go false I5 e5 (fun hh => by cases hh) (fun _ => ⟨rfl, hzv⟩)
              · have hzt : z = true ∧ V x y = false := by
                  cases z with
                  | true => cases hv : V x y with
                    | true => rw [hv] at hzv; exact absurd rfl hzv
                    | false => exact ⟨rfl, rfl⟩
                  | false => cases hv : V x y with
                    | true => exact absurd (a2 hv) (by decide)
                    | false => rw [hv] at hzv; exact absurd rfl hzv
                rw [if_neg (by rw [hzt.1, hzt.2]; decide)]
                refine ⟨by omega, fun I5 e5 t et => ?_⟩
                rw [et, nI_1 y]
                refine go true I5 e5 (fun _ => ?_) (fun hh => by cases hh)
                rw [hzt.1, ← (d8 rfl).1]
                exact ct_up (by omega) (by omega) hzt.2
          by_cases ea : a = 4
          · rw [if_pos (show (4 : Int32) ≤ nI a by rw [ea]; decide)]
            exact fin (fun hz a' ha' => a4 hz a' (by omega))
          · rw [if_neg (show ¬ (4 : Int32) ≤ nI a by rw [l4, leNN (by decide) (by omega)]; omega)]
            cases z with
            | true =>
              rw [if_neg (by decide)]
              exact fin (fun hh => by cases hh)
            | false =>
              rw [if_pos (by decide), m_told g4' d3 hxi hyi (by omega), nI_1, forall_eq]
              have hvf : V x y = false := by
                cases hv : V x y with
                | true => exact absurd (a2 hv) (by decide)
                | false => rfl
              refine ih5 (tld to V x y a) (a + 1) ⟨by omega, (fun h => by rw [hvf] at h; cases h), (fun h => Or.inr ⟨a, by omega, h⟩), fun h a' ha' => ?_⟩ (by omega)
              by_cases haa : a' = a
              · rw [haa]; exact h
              · exact a4 rfl a' (by omega)
  · have hin : i < n := by omega
    rw [if_neg (show ¬ nI n ≤ nI i by rw [leNN (by omega) (by omega)]; omega)]
    refine lp2 (fun f (j : Nat) (I2 : MI) => f_Model_findUnlike_L12 (nI m) (nI i) _ f (nI j) I2 J) (fun j I2 => j ≤ n ∧ (∀ k, k ≠ 195 → I2 k = I k) ∧ (∀ x y, x < i → y < n → I2 195 (16 * x + y) = if an x ≠ an y then 1 else 0) ∧ ∀ y, y < j → I2 195 (16 * i + y) = if an i ≠ an y then 1 else 0) (fun j _ => n - j) ?_ 0 I1 ⟨Nat.zero_le _, b2, b3, fun y hy => absurd hy (Nat.not_lt_zero _)⟩
    rintro f2 j I2 ⟨c1, c2, c3, c4⟩ ih2
    unfold f_Model_findUnlike_L12
    rw [c2 177 (by decide), g1]
    by_cases ej : j = n
    · rw [if_pos (show nI n ≤ nI j by rw [ej, leNN (by omega) (by omega)]; omega), nI_1, forall_eq]
      refine ih (i + 1) I2 ⟨by omega, c2, fun x y hx hy => ?_⟩ (by omega)
      by_cases hxi : x = i
      · rw [hxi]; exact c4 y (by omega)
      · exact c3 x y (by omega) hy
    · have hjn : j < n := by omega
      obtain ⟨i7, s, s14, s1, s2⟩ := g4 i hin
      obtain ⟨j7, u, u14, u1, u2⟩ := g4 j hjn
      rw [if_neg (show ¬ nI n ≤ nI j by rw [leNN (by omega) (by omega)]; omega), vpN (by omega), vpN (by omega), nI_clamp (by omega), nI_clamp (by omega), c2 191 (by decide), c2 187 (by decide), s1, u1, l14, pk_mul, nI_add, nI_add, vpN (by omega), vpN (by omega), nI_clamp (by omega), nI_clamp (by omega), s2, u2]
      refine ⟨by omega, by omega, by omega, by omega, ?_⟩
      unfold f_Model_findUnlike_b70
      rw [l16, pk_mul, nI_add, vpN (by omega), nI_clamp (by omega)]
      have fin : ∀ z : Bool, (if an i ≠ an j then (1 : Int32) else 0) = (if z then 1 else 0) → (16 * i + j < 256 ∧ ∀ I70 : MI, I70 = sI I2 195 (upd (I2 195) (16 * i + j) (vp_nar .boolean (if z then 1 else 0))) → ∀ t71 : Int32, t71 = nI j + 1 → f_Model_findUnlike_L12 (nI m) (nI i) (fun (I : MI) (J : MJ) => ∀ t77 : Int32, t77 = nI i + 1 → f_Model_findUnlike_L2 (nI m) (fun (I : MI) (J : MJ) => ∃ n, f_Model_findUnlike_L87 (fun (I : MI) (J : MJ) => Q I J) n 1 0 I J) f t77 I J) f2 t71 I70 J) := by
        intro z hz
        refine ⟨by omega, fun I3 e3 t et => ?_⟩
        have hnar : vp_nar .boolean (if z then 1 else 0) = if z then 1 else 0 := by cases z; exact nar0; exact nar1
        rw [hnar] at e3
        rw [et, nI_1 j]
        refine ih2 (j + 1) I3 ⟨by omega, fun k hk => by rw [e3, sI_n _ _ hk]; exact c2 k hk, fun x y hx hy => by rw [e3, sI_s, upd_at, if_neg (by omega)]; exact c3 x y hx hy, fun y hy => ?_⟩ (by omega)
        rw [e3, sI_s, upd_at]
        by_cases hyj : y = j
        · rw [if_pos (by omega), hyj, hz]
        · rw [if_neg (by omega)]; exact c4 y (by omega)
      by_cases ea : an i = an j
      · rw [if_pos (by rw [ea])]
        exact fin false (by simp [ea])
      · rw [if_neg (by rw [eqNN (by omega) (by omega)]; exact ea)]
        exact fin true (by simp [ea])
