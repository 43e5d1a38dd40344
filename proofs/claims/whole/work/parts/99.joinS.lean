/-! join: the class' walk -/
theorem s_lead {o s a : Nat} {A : AM} {I : MI} {J : MJ} {Q : Int32 → MI → MJ → Prop} (hA : RepC I o A) (hv : VA A) (hs : s < 2 ^ 31) (ha : a < 4) : f_Machine_leadOf o (nI s) (nI a) I J Q ↔ Q (enO (ld A s a)) I J := by
  unfold f_Machine_leadOf
  have h14 := hv.2.2.2.2.1
  by_cases h : s < aN A
  · rw [s_hasTk hA hv h, tX_tk ha]
    unfold ld
    cases hx : tkO A s a with
    | none => rw [if_pos (by simp)]; exact Iff.rfl
    | some x =>
      obtain ⟨z, r, hz, hr, hg⟩ := tkO_inv hx
      have kk := ((hA.2.2.2 s z hz).2.2 r hr).2 a x hg
      rw [if_neg isS1, l4, pk_mul, nI_add, vpN (by omega), nI_clamp (by omega), kk.1]
      exact ⟨fun h => h.2, fun h => ⟨by omega, h⟩⟩
  · rw [s_hasTkB hA (Or.inr (nI_le (by omega) hs)), if_pos rfl, ld_no (by omega)]
    exact Iff.rfl
theorem j_isIn {s x : Nat} {I : MI} {J : MJ} {Q : Int32 → MI → MJ → Prop} (hx : x < 2 ^ 31) (hs : s < 31) : f_Joining_isIn (nI s) (nI x) I J Q ↔ Q (if x.testBit s = true then 1 else 0) I J := by
  unfold f_Joining_isIn
  rw [jb_bit hx hs]
  by_cases h : x.testBit s = true
  · simp [h]
  · simp [h]
theorem b01 {p : Prop} [Decidable p] : (if p then (1 : Int32) else 0) = 0 ↔ ¬ p := by
  by_cases h : p
  · simp [h]
  · simp [h]
theorem j_moved {o f a : Nat} {A : AM} {I : MI} {J : MJ} {Q : Int32 → MI → MJ → Prop} (hA : RepC I o A) (hv : VA A) (hf : f < 2 ^ 31) (ha : a < 4) : f_Joining_movedState o (nI f) (nI a) I J Q ↔ Q (nI (mvF A f a)) I J := by
  unfold f_Joining_movedState
  rw [s_lead hA hv hf ha]
  unfold mvF
  cases h : ld A f a with
  | none => rw [if_pos (show enO none = -1 from rfl)]; exact Iff.rfl
  | some t =>
    have := (ld_lt hv h).1
    have := hv.2.2.2.2.1
    rw [if_neg (enO_nn (by omega))]
    exact Iff.rfl
theorem j_mvS {o set a : Nat} {A : AM} {I : MI} {J : MJ} {Q : Int32 → MI → MJ → Prop} (hA : RepC I o A) (hv : VA A) (hset : set < 2 ^ 31) (ha : a < 4) (q : Q (nI (mvS A set a (aN A))) I J) : f_Joining_movedSet o (nI set) (nI a) I J Q := by
  unfold f_Joining_movedSet
  have h14 := hv.2.2.2.2.1
  refine lp1 (fun n (s : Nat) => f_Joining_movedSet_L5 o (nI set) (nI a) _ n (nI (mvS A set a s)) (nI s) I J) (fun s => s ≤ aN A) (fun s => aN A - s) ?_ 0 (Nat.zero_le _)
  intro n s hs ih
  unfold f_Joining_movedSet_L5
  rw [hA.2.1]
  by_cases es : s = aN A
  · rw [if_pos (by rw [es, leNN (by omega) (by omega)]; exact Nat.le_refl _), es]
    exact q
  · have key := ih (s + 1) (by omega) (by omega)
    rw [if_neg (by rw [leNN (by omega) (by omega)]; omega), j_isIn hset (by omega)]
    unfold f_Joining_movedSet_b34 f_Joining_movedSet_b49
    unfold mvS at key
    by_cases hb : set.testBit s = true
    · rw [if_neg (by rw [b01]; exact fun h => h hb), s_lead hA hv (by omega) ha]
      rw [if_pos hb] at key
      cases hl : ld A s a with
      | none =>
        rw [hl] at key
        rw [if_pos (show enO none = -1 from rfl)]
        intro t et
        rw [et, nI_1]
        exact key
      | some t =>
        have ht := (ld_lt hv hl).1
        rw [hl] at key
        rw [if_neg (enO_nn (by omega)), show enO (some t) = nI t from rfl, jb_shl (by omega), jb_or]
        intro u eu t et
        rw [eu, et, nI_1]
        exact key
    · rw [if_pos (b01.mpr hb), if_pos rfl]
      rw [if_neg hb] at key
      intro t et
      rw [et, nI_1]
      exact key
theorem j_inS {set a : Nat} {A : AM} {I : MI} {J : MJ} {Q : Int32 → MI → MJ → Prop} (hA : RepC I 13 A) (hv : VA A) (hset : set < 2 ^ 31) (ha : a < 4) (q : Q (nI (inS A set a (aN A))) I J) : f_Joining_setLedInto (nI set) (nI a) I J Q := by
  unfold f_Joining_setLedInto
  have h14 := hv.2.2.2.2.1
  refine lp1 (fun n (s : Nat) => f_Joining_setLedInto_L5 (nI set) (nI a) _ n (nI (inS A set a s)) (nI s) I J) (fun s => s ≤ aN A) (fun s => aN A - s) ?_ 0 (Nat.zero_le _)
  intro n s hs ih
  unfold f_Joining_setLedInto_L5
  rw [hA.2.1]
  by_cases es : s = aN A
  · rw [if_pos (by rw [es, leNN (by omega) (by omega)]; exact Nat.le_refl _), es]
    exact q
  · have key := ih (s + 1) (by omega) (by omega)
    rw [if_neg (by rw [leNN (by omega) (by omega)]; omega), s_lead hA hv (by omega) ha]
    unfold f_Joining_setLedInto_b51
    unfold inS at key
    cases hl : ld A s a with
    | none =>
      rw [hl] at key
      rw [if_pos (show enO none = -1 from rfl)]
      intro t et
      rw [et, nI_1]
      exact key
    | some t =>
      have ht := (ld_lt hv hl).1
      rw [hl] at key
      rw [if_neg (enO_nn (by omega)), show enO (some t) = nI t from rfl, j_isIn hset (by omega)]
      by_cases hb : set.testBit t = true
      · rw [if_neg (by rw [b01]; exact fun h => h hb), jb_shl (by omega), jb_or]
        simp only [if_pos hb] at key
        intro u eu t et
        rw [eu, et, nI_1]
        exact key
      · rw [if_pos (b01.mpr hb)]
        simp only [if_neg hb] at key
        intro t et
        rw [et, nI_1]
        exact key
theorem j_yes {o : Nat} {A : AM} {I : MI} {J : MJ} {Q : Int32 → MI → MJ → Prop} (hA : RepC I o A) (hv : VA A) (q : Q (nI (yes A)) I J) : f_Joining_yesStates o I J Q := by
  unfold f_Joining_yesStates
  have h14 := hv.2.2.2.2.1
  refine lp1 (fun n (s : Nat) => f_Joining_yesStates_L4 o _ n (nI (yS A s)) (nI s) I J) (fun s => s ≤ aN A) (fun s => aN A - s) ?_ 0 (Nat.zero_le _)
  intro n s hs ih
  unfold f_Joining_yesStates_L4
  rw [hA.2.1]
  by_cases es : s = aN A
  · rw [if_pos (by rw [es, leNN (by omega) (by omega)]; exact Nat.le_refl _), es]
    exact q
  · have key := ih (s + 1) (by omega) (by omega)
    have hs' : s < aN A := by omega
    obtain ⟨z, hz⟩ := VA.get hs'
    have h7 := anS_8 hv hs'
    rw [if_neg (by rw [leNN (by omega) (by omega)]; omega), vpN (by omega), nI_clamp (by omega), (hA.2.2.2 s z hz).1, ← anS_of hz]
    refine ⟨by omega, ?_⟩
    unfold f_Joining_yesStates_b28
    unfold yS at key
    by_cases h1 : anS A s = 1
    · rw [if_pos (by rw [h1]; rfl), jb_shl (by omega), jb_or]
      rw [if_pos h1] at key
      intro u eu t et
      rw [eu, et, nI_1]
      exact key
    · rw [if_neg (by rw [l1, eqNN (by omega) (by decide)]; exact h1)]
      rw [if_neg h1] at key
      intro t et
      rw [et, nI_1]
      exact key
def JnC (I : MI) (how : Nat) (A B : AM) : Prop := RepC I 13 A ∧ RepC I 18 B ∧ I 12 2 = nI how ∧ I 12 3 = nI (yes A) ∧ I 12 4 = nI (yes B)
theorem j_begin {how : Nat} {A B : AM} {I : MI} {J : MJ} {Q : MI → MJ → Prop} (hA : RepC I 13 A) (hB : RepC I 18 B) (hv : VA A) (hw : VA B) (q : ∀ I', (∀ i, i ≠ 12 → I' i = I i) → JnC I' how A B → Q I' J) : f_Joining_begin (nI how) I J Q := by
  unfold f_Joining_begin
  intro I1 e1
  refine j_yes (hA.kp (fun i a b => by rw [e1, sI_n _ _ (by omega)])) hv (fun I2 e2 => ?_)
  refine j_yes (hB.kp (fun i a b => by rw [e2, sI_n _ _ (by omega), e1, sI_n _ _ (by omega)])) hw (fun I3 e3 => ?_)
  have f : ∀ i, i ≠ 12 → I3 i = I i := fun i hi => by rw [e3, sI_n _ _ hi, e2, sI_n _ _ hi, e1, sI_n _ _ hi]
  refine q I3 f ⟨hA.kp (fun i a b => f i (by omega)), hB.kp (fun i a b => f i (by omega)), ?_, ?_, ?_⟩
  · rw [e3, sI_s, pk_un (by decide), e2, sI_s, pk_un (by decide), e1, sI_s, pk_us]
  · rw [e3, sI_s, pk_un (by decide), e2, sI_s, pk_us]
  · rw [e3, sI_s, pk_us]
theorem j_paired {f b : Nat} {I : MI} {J : MJ} {Q : Int32 → MI → MJ → Prop} (hf : f ≤ 14) (hb : b < 16384) : f_Joining_paired (nI f) (nI b) I J Q ↔ Q (nI (f * 16384 + b)) I J := by
  unfold f_Joining_paired
  rw [jb_pair hf hb]
theorem j_with2 {f b : Nat} {A : AM} {I : MI} {J : MJ} {Q : Int32 → MI → MJ → Prop} (hv : VA A) (h : I 12 3 = nI (yes A)) (hf : f ≤ 14) (hb : b < 16384) : f_Joining_withSecond (nI f) (nI b) I J Q ↔ Q (nI (w2 A f b)) I J := by
  unfold f_Joining_withSecond f_Joining_withSecond_b19 w2
  have hy := yes_lt hv
  rw [h, j_isIn (by omega) (by omega)]
  by_cases hb1 : (yes A).testBit f = true
  · rw [if_neg (by rw [b01]; exact fun h => h hb1), if_pos hb1, l1, jb_or, j_paired hf (or14 hb (by decide))]
  · rw [if_pos (b01.mpr hb1), if_neg hb1, j_paired hf hb]
theorem j_with1 {s : Nat} {A : AM} {I : MI} {J : MJ} {Q : Int32 → MI → MJ → Prop} (hv : VA A) (h : I 12 3 = nI (yes A)) (hs : s < 16384) : f_Joining_withFirst (nI s) I J Q ↔ Q (nI (w1 A s)) I J := by
  unfold f_Joining_withFirst w1
  have hle : s &&& yes A ≤ s := Nat.and_le_left
  rw [h, jb_and]
  by_cases e : s &&& yes A = 0
  · rw [if_pos ((nI0_eq (by omega)).mpr e), if_pos e]
  · rw [if_neg (fun h => e ((nI0_eq (by omega)).mp h)), if_neg e, l1, jb_or]
theorem h6 {how : Nat} (h : how ≤ 5) : how = 0 ∨ how = 1 ∨ how = 2 ∨ how = 3 ∨ how = 4 ∨ how = 5 := by omega
theorem j_first {how : Nat} {A B : AM} {I : MI} {J : MJ} {Q : Int32 → MI → MJ → Prop} (h : JnC I how A B) (h5 : how ≤ 5) (hv : VA A) (q : Q (nI (k0J how A)) I J) : f_Joining_firstKey I J Q := by
  unfold f_Joining_firstKey
  obtain ⟨-, -, g3, g4, g5⟩ := h
  rw [g3]
  have z : ∀ R : Int32 → MI → MJ → Prop, f_Joining_paired (0 : Int32) (0 : Int32) I J R ↔ R (nI 0) I J := fun R => j_paired (f := 0) (b := 0) (by decide) (by decide)
  rcases h6 h5 with rfl | rfl | rfl | rfl | rfl | rfl
  · rw [if_neg (by decide), if_neg (by decide), if_neg (by decide), z]; exact q
  · rw [if_neg (by decide), if_neg (by decide), if_neg (by decide), z]; exact q
  · rw [if_neg (by decide), if_neg (by decide), if_neg (by decide), z]; exact q
  · rw [if_pos (by decide)]
    exact (j_with2 (f := 0) (b := 0) hv g4 (by decide) (by decide)).mpr q
  · rw [if_neg (by decide), if_pos (by decide), g4]; exact q
  · rw [if_neg (by decide), if_neg (by decide), if_pos (by decide)]; exact q
theorem j_next {how k a : Nat} {A B : AM} {I : MI} {J : MJ} {Q : Int32 → MI → MJ → Prop} (h : JnC I how A B) (h5 : how ≤ 5) (hv : VA A) (hw : VA B) (hk : PJ how A B k) (ha : a < 4) (q : Q (nI (nxJ how A B k a)) I J) : f_Joining_nextKey (nI k) (nI a) I J Q := by
  unfold f_Joining_nextKey f_Joining_nextKey_b94
  obtain ⟨g1, g2, g3, g4, g5⟩ := h
  have h31 := PJ_31 hk
  rw [forall_eq, forall_eq, jb_hi h31, jb_lo h31, g3]
  have m1 := mvF_le hv (k / 16384) a
  have m2 := mvF_le hw (k % 16384) a
  have pairC : how ≠ 3 → how ≠ 4 → how ≠ 5 → f_Joining_movedState 13 (nI (k / 16384)) (nI a) I J (fun r108 I108 J108 => f_Joining_movedState 18 (nI (k % 16384)) (nI a) I108 J108 (fun r118 I118 J118 => f_Joining_paired r108 r118 I118 J118 (fun r121 I121 J121 => Q r121 I121 J121))) := fun e3 e4 e5 => by
    rw [j_moved g1 hv (by omega) ha, j_moved g2 hw (by omega) ha, j_paired m1.1 (by omega)]
    unfold nxJ at q
    rw [if_neg e3, if_neg e4, if_neg e5] at q
    exact q
  rcases h6 h5 with rfl | rfl | rfl | rfl | rfl | rfl
  · rw [if_neg (by decide), if_neg (by decide), if_neg (by decide)]; exact pairC (by decide) (by decide) (by decide)
  · rw [if_neg (by decide), if_neg (by decide), if_neg (by decide)]; exact pairC (by decide) (by decide) (by decide)
  · rw [if_neg (by decide), if_neg (by decide), if_neg (by decide)]; exact pairC (by decide) (by decide) (by decide)
  · rw [if_pos (by decide), j_moved g1 hv (by omega) ha]
    refine j_mvS g2 hw (by omega) ha ?_
    rw [j_with2 hv g4 m1.1 (mvS_lt hw _ _ _)]
    exact q
  · rw [if_neg (by decide), if_pos (by decide)]
    exact j_inS g1 hv (by omega) ha q
  · rw [if_neg (by decide), if_neg (by decide), if_pos (by decide)]
    have q' : Q (nI (w1 A (mvS A (if k = 16384 then 1 else k % 16384) a (aN A)))) I J := q
    by_cases e : k = 16384
    · rw [if_pos (by rw [e]; rfl), l1]
      rw [if_pos e] at q'
      refine j_mvS g1 hv (by decide) ha ?_
      rw [j_with1 hv g4 (mvS_lt hv _ _ _)]
      exact q'
    · rw [if_neg (by rw [show (16384 : Int32) = nI 16384 from rfl, eqNN h31 (by decide)]; exact e)]
      rw [if_neg e] at q'
      refine j_mvS g1 hv (by omega) ha ?_
      rw [j_with1 hv g4 (mvS_lt hv _ _ _)]
      exact q'
theorem anJ_p {how : Nat} {A B : AM} {k : Nat} (h : blJ how A B k) : anJ how A B k = 1 := by unfold anJ; rw [if_pos h]
theorem anJ_n {how : Nat} {A B : AM} {k : Nat} (h : ¬ blJ how A B k) : anJ how A B k = 0 := by unfold anJ; rw [if_neg h]
theorem j_ans {how k : Nat} {A B : AM} {I : MI} {J : MJ} {Q : Int32 → MI → MJ → Prop} (h : JnC I how A B) (h5 : how ≤ 5) (hv : VA A) (hw : VA B) (hk : PJ how A B k) (q : Q (nI (anJ how A B k)) I J) : f_Joining_answerAt (nI k) I J Q := by
  unfold f_Joining_answerAt f_Joining_belongs f_Joining_belongs_b90 f_Joining_belongs_b150
  obtain ⟨g1, g2, g3, g4, g5⟩ := h
  have h31 := PJ_31 hk
  have y1 := yes_lt hv
  have y2 := yes_lt hw
  rw [jb_hi h31, jb_lo h31, g3, g4, g5]
  have n1 : ¬ (1 : Int32) = 0 := by decide
  have t1 : blJ how A B k → (if (1 : Int32) = 0 then Q 0 I J else Q 1 I J) := fun hb => by rw [anJ_p hb] at q; rw [if_neg n1]; exact q
  have t0 : ¬ blJ how A B k → (if (0 : Int32) = 0 then Q 0 I J else Q 1 I J) := fun hb => by rw [anJ_n hb] at q; rw [if_pos rfl]; exact q
  have hf31 : how < 3 → k / 16384 < 31 := fun h3 => by
    unfold PJ at hk
    rw [if_neg (by omega), if_neg (by omega), if_neg (by omega)] at hk
    have := hk.1.1
    omega
  have hb31 : how < 3 → k % 16384 < 31 := fun h3 => by
    unfold PJ at hk
    rw [if_neg (by omega), if_neg (by omega), if_neg (by omega)] at hk
    have := hk.2.1.1
    omega
  have ale : ∀ y : Nat, k % 16384 &&& y < 2 ^ 31 := fun y => by have : k % 16384 &&& y ≤ k % 16384 := Nat.and_le_left; omega
  rcases h6 h5 with rfl | rfl | rfl | rfl | rfl | rfl
  · rw [if_pos (by decide), j_isIn (by omega) (hf31 (by decide)), g5, j_isIn (by omega) (hb31 (by decide))]
    by_cases c1 : (yes A).testBit (k / 16384) = true
    · rw [if_neg (by rw [b01]; exact fun h => h c1)]
      by_cases c2 : (yes B).testBit (k % 16384) = true
      · rw [if_neg (by rw [b01]; exact fun h => h c2)]; exact t1 ⟨c1, c2⟩
      · rw [if_pos (b01.mpr c2)]; exact t0 (fun h => c2 h.2)
    · rw [if_pos (b01.mpr c1)]; exact t0 (fun h => c1 h.1)
  · rw [if_neg (by decide), if_pos (by decide), j_isIn (by omega) (hf31 (by decide)), g5, j_isIn (by omega) (hb31 (by decide))]
    by_cases c1 : (yes A).testBit (k / 16384) = true
    · rw [if_neg (by rw [b01]; exact fun h => h c1)]; exact t1 (Or.inl c1)
    · rw [if_pos (b01.mpr c1)]
      by_cases c2 : (yes B).testBit (k % 16384) = true
      · rw [if_neg (by rw [b01]; exact fun h => h c2)]; exact t1 (Or.inr c2)
      · rw [if_pos (b01.mpr c2)]; exact t0 (fun h => h.elim c1 c2)
  · rw [if_neg (by decide), if_neg (by decide), if_pos (by decide), j_isIn (by omega) (hf31 (by decide))]
    by_cases c1 : (yes A).testBit (k / 16384) = true
    · rw [if_neg (by rw [b01]; exact fun h => h c1)]; exact t0 (fun h => h c1)
    · rw [if_pos (b01.mpr c1)]; exact t1 c1
  · rw [if_neg (by decide), if_neg (by decide), if_neg (by decide), if_pos (by decide), jb_and]
    by_cases c1 : k % 16384 &&& yes B = 0
    · rw [if_pos ((nI0_eq (ale _)).mpr c1)]; exact t0 (fun h => h c1)
    · rw [if_neg (fun h => c1 ((nI0_eq (ale _)).mp h))]; exact t1 c1
  · rw [if_neg (by decide), if_neg (by decide), if_neg (by decide), if_neg (by decide), if_pos (by decide), l0, j_isIn (by omega) (by decide)]
    by_cases c1 : (k % 16384).testBit 0 = true
    · rw [if_pos c1]
      exact ⟨Or.inr rfl, t1 c1⟩
    · rw [if_neg c1]
      exact ⟨Or.inl rfl, t0 c1⟩
  · rw [if_neg (by decide), if_neg (by decide), if_neg (by decide), if_neg (by decide), if_neg (by decide), jb_and]
    by_cases e : k = 16384
    · rw [if_pos (by rw [e]; rfl)]; exact t1 (Or.inl e)
    · rw [if_neg (by rw [show (16384 : Int32) = nI 16384 from rfl, eqNN h31 (by decide)]; exact e)]
      by_cases c1 : k % 16384 &&& yes A = 0
      · rw [if_pos ((nI0_eq (ale _)).mpr c1)]; exact t0 (fun h => h.elim e (fun h => h c1))
      · rw [if_neg (fun h => c1 ((nI0_eq (ale _)).mp h))]; exact t1 (Or.inr c1)
