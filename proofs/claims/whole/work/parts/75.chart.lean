/-! the class' chart: its slots -/
def hsh (x : Int32) : Nat := (x * (-1640531535)).toBitVec.toNat / 8388608
theorem hsh_lt (x : Int32) : hsh x < 512 := by
  have := (x * (-1640531535)).toBitVec.isLt
  unfold hsh
  omega
theorem ush23 (x : Int32) : (x.toUInt32 >>> ((23 : Int32).toUInt32 &&& Int32.toUInt32 31)).toInt32 = nI (x.toBitVec.toNat / 8388608) := by
  have h := pk_ushr x 23 23 (by decide)
  have hx := x.toBitVec.isLt
  refine Int32.toBitVec_inj.mp (BitVec.eq_of_toNat_eq ?_)
  rw [h, pk_tn (by omega)]
def ChS (I : MI) (L : List Nat) : Prop := I 2 0 = nI L.length ∧ L.length ≤ 225 ∧ L.Nodup ∧ (∀ (i x : Nat), L[i]? = some x → x < 2 ^ 31 ∧ I 3 i = nI x) ∧ ∃ sl : Nat → Nat, (∀ i, i < L.length → sl i < 512 ∧ I 4 i = nI (sl i) ∧ I 5 (sl i) = nI (i + 1)) ∧ (∀ q, q < 512 → (∀ i, i < L.length → sl i ≠ q) → I 5 q = 0) ∧ ∀ (i x : Nat), L[i]? = some x → ∃ d, d < 512 ∧ sl i = (hsh (nI x) + d) % 512 ∧ ∀ e, e < d → I 5 ((hsh (nI x) + e) % 512) ≠ 0
theorem ChS.has {I : MI} {L : List Nat} (h : ChS I L) : HaS I := by
  obtain ⟨h1, h2, h3, h4, sl, h5, h6, h7⟩ := h
  refine ⟨L.length, h2, h1, fun i hi => ⟨sl i, (h5 i hi).1, (h5 i hi).2.1⟩, fun q hq hn => h6 q hq (fun i hi e => ?_)⟩
  exact hn i hi (by rw [(h5 i hi).2.1, e])
theorem ChS.kp {I I' : MI} {L : List Nat} (h : ChS I L) (e : I' 2 0 = I 2 0 ∧ I' 3 = I 3 ∧ I' 4 = I 4 ∧ I' 5 = I 5) : ChS I' L := by
  unfold ChS at *
  rw [e.1, e.2.1, e.2.2.1, e.2.2.2]
  exact h
theorem c_wipe {I : MI} {J : MJ} {Q : MI → MJ → Prop} (h : HaS I) (q : ∀ I', ChS I' [] → (∀ i, i ≠ 2 → i ≠ 5 → I' i = I i) → (∀ j, j ≠ 0 → I' 2 j = I 2 j) → Q I' J) : f_Chart_wipe I J Q := by
  obtain ⟨n, h1, h2, h3, h4⟩ := h
  unfold f_Chart_wipe
  refine lp2 (fun f (i : Nat) (I1 : MI) => f_Chart_wipe_L2 _ f (nI i) I1 J) (fun i I1 => i ≤ n ∧ (∀ k, k ≠ 5 → I1 k = I k) ∧ ∀ q, q < 512 → (∀ j, i ≤ j → j < n → I 4 j ≠ nI q) → I1 5 q = 0) (fun i _ => n - i) ?_ 0 I ⟨Nat.zero_le _, fun _ _ => rfl, fun q hq hn => h4 q hq (fun i hi => hn i (Nat.zero_le _) hi)⟩
  rintro f i I1 ⟨b1, b2, b3⟩ ih
  unfold f_Chart_wipe_L2
  rw [b2 2 (by decide), h2]
  by_cases e : i = n
  · rw [if_pos (show nI n ≤ nI i by rw [e, leNN (by omega) (by omega)]; omega)]
    intro I2 e2
    refine q I2 ⟨by rw [e2, sI_s, pk_us]; rfl, by simp, by simp, (fun i x hx => by simp at hx), fun _ => 0, (fun i hi => by simp at hi), fun q hq _ => ?_, (fun i x hx => by simp at hx)⟩ (fun k k1 k2 => by rw [e2, sI_n _ _ k1, b2 k k2]) (fun j hj => by rw [e2, sI_s, pk_un hj])
    rw [e2, sI_n _ _ (by decide)]
    exact b3 q hq (fun j j1 j2 => by omega)
  · obtain ⟨s, hs, hs2⟩ := h3 i (by omega)
    rw [if_neg (show ¬ nI n ≤ nI i by rw [leNN (by omega) (by omega)]; omega), vpN (by omega), nI_clamp (by omega), b2 4 (by decide), hs2, vpN (by omega), nI_clamp (by omega)]
    refine ⟨by omega, hs, fun I2 e2 t et => ?_⟩
    rw [et, nI_1]
    refine ih (i + 1) I2 ⟨by omega, fun k hk => by rw [e2, sI_n _ _ hk, b2 k hk], fun q hq hn => ?_⟩ (by omega)
    rw [e2, sI_s, upd_at]
    by_cases hqs : q = s
    · rw [if_pos hqs]
    · rw [if_neg hqs]
      refine b3 q hq (fun j j1 j2 => ?_)
      by_cases hji : j = i
      · rw [hji, hs2, Ne, eqNN (by omega) (by omega)]; omega
      · exact hn j (by omega) j2
theorem hstep (h t : Nat) : ((h + t) % 512 + 1) % 512 = (h + (t + 1)) % 512 := by omega
theorem c_node {k most : Nat} {L : List Nat} {I : MI} {J : MJ} {Q : Int32 → MI → MJ → Prop} (hC : ChS I L) (hk : k < 2 ^ 31) (hm : most ≤ 225) (q1 : ∀ i : Nat, L[i]? = some k → Q (nI i) I J) (q2 : k ∉ L → most ≤ L.length → Q (-2) I J) (q3 : k ∉ L → L.length < most → ∀ I', ChS I' (L ++ [k]) → (∀ i, i ≠ 2 → i ≠ 3 → i ≠ 4 → i ≠ 5 → I' i = I i) → (∀ j, j ≠ 0 → I' 2 j = I 2 j) → Q (nI L.length) I' J) : f_Chart_nodeOf (nI k) (nI most) I J Q := by
  obtain ⟨h1, h2, h3, h4, sl, h5, h6, h7⟩ := id hC
  unfold f_Chart_nodeOf
  rw [ush23, forall_eq]
  have hh := hsh_lt (nI k)
  -- what a slot holds
  have hold : ∀ q, q < 512 → I 5 q = 0 ∨ ∃ i, i < L.length ∧ sl i = q ∧ I 5 q = nI (i + 1) := by
    intro q hq
    by_cases hn : ∀ i, i < L.length → sl i ≠ q
    · exact Or.inl (h6 q hq hn)
    · have : ∃ i, i < L.length ∧ sl i = q := by
        by_cases h : ∃ i, i < L.length ∧ sl i = q
        · exact h
        · exact absurd (fun i hi e => h ⟨i, hi, e⟩) hn
      obtain ⟨i, hi, e⟩ := this
      exact Or.inr ⟨i, hi, e, by rw [← e]; exact (h5 i hi).2.2⟩
  have h00 : (nI k * -1640531535).toBitVec.toNat / 8388608 = (hsh (nI k) + 0) % 512 := by
    have : hsh (nI k) = (nI k * -1640531535).toBitVec.toNat / 8388608 := rfl
    omega
  rw [h00]
  refine lp1 (fun f (t : Nat) => f_Chart_nodeOf_L11 (nI k) (nI most) _ _ _ _ f (nI ((hsh (nI k) + t) % 512)) (nI t) I J) (fun t => t ≤ 512 ∧ (∀ e, e < t → I 5 ((hsh (nI k) + e) % 512) ≠ 0) ∧ ∀ i, L[i]? = some k → ∀ e, e < t → sl i ≠ (hsh (nI k) + e) % 512) (fun t => 512 - t) ?_ 0 ⟨by decide, (fun e he => absurd he (Nat.not_lt_zero _)), (fun i _ e he => absurd he (Nat.not_lt_zero _))⟩
  rintro f t ⟨b1, b2, b3⟩ ih
  unfold f_Chart_nodeOf_L11
  by_cases et : t = 512
  · exfalso
    have hall : ∀ q, q < 512 → ∃ i, i < L.length ∧ sl i = q ∧ I 5 q = nI (i + 1) := by
      intro q hq
      rcases hold q hq with h | h
      · exfalso
        refine b2 ((q + 512 - hsh (nI k)) % 512) (by omega) ?_
        rw [show (hsh (nI k) + (q + 512 - hsh (nI k)) % 512) % 512 = q by omega]
        exact h
      · exact h
    have := php 225 512 (fun q => (I 5 q).toNatClampNeg - 1) (fun q hq => by
      obtain ⟨i, hi, e1, e2⟩ := hall q hq
      rw [e2, nI_clamp (by omega)]
      omega) (fun q q' hq hq' e => by
      obtain ⟨i, hi, e1, e2⟩ := hall q hq
      obtain ⟨i', hi', e1', e2'⟩ := hall q' hq'
      rw [e2, e2', nI_clamp (by omega), nI_clamp (by omega)] at e
      have : i = i' := by omega
      rw [← e1, ← e1', this])
    omega
  · have hq : (hsh (nI k) + t) % 512 < 512 := Nat.mod_lt _ (by decide)
    rw [if_neg (show ¬ (512 : Int32) ≤ nI t by rw [l512, leNN (by decide) (by omega)]; omega), vpN (by omega), nI_clamp (by omega), forall_eq]
    refine ⟨hq, ?_⟩
    unfold f_Chart_nodeOf_b48 f_Chart_nodeOf_b74
    rcases hold _ hq with h0 | ⟨i, hi, e1, e2⟩
    · -- a free slot: the key isn't there
      have hno : k ∉ L := by
        intro hin
        obtain ⟨j, hj⟩ := List.mem_iff_getElem?.mp hin
        obtain ⟨d, hd, e1, e2⟩ := h7 j k hj
        have hjl := (List.getElem?_eq_some_iff.mp hj).1
        rcases Nat.lt_trichotomy d t with hlt | hlt | hlt
        · exact b3 j hj d hlt e1
        · have := (h5 j hjl).2.2
          rw [e1, hlt, h0] at this
          exact nI_ne0 (by omega) (by omega) this.symm
        · exact e2 t hlt h0
      rw [h0, if_pos (by decide), if_neg (by decide), h1, if_neg (show ¬ (0 : Int32) ≤ 0 - 1 by decide)]
      by_cases hml : most ≤ L.length
      · rw [if_pos (show nI most ≤ nI L.length by rw [leNN (by omega) (by omega)]; exact hml)]
        exact q2 hno hml
      · rw [if_neg (show ¬ nI most ≤ nI L.length by rw [leNN (by omega) (by omega)]; exact hml), if_pos (show nI L.length < 225 by rw [l225, ltNN (by omega) (by decide)]; omega)]
        show vp_in (I 2 0) 225 ∧ _
        rw [h1, vpN (by omega), nI_clamp (by omega)]
        refine ⟨by omega, fun I1 e1 => ?_⟩
        have f1 : I1 2 0 = nI L.length := by rw [e1, sI_n _ _ (by decide)]; exact h1
        rw [f1, vpN (by omega), nI_clamp (by omega)]
        refine ⟨by omega, fun I2 e2 I3 e3 => ?_⟩
        have f2 : I2 2 0 = nI L.length := by rw [e2, sI_n _ _ (by decide)]; exact f1
        rw [f2, nI_1] at e3
        have f3 : I3 2 0 = nI (L.length + 1) := by rw [e3, sI_s, pk_us]
        rw [f3, vpN (by omega), nI_clamp (by omega)]
        refine ⟨hq, fun I4 e4 => ?_⟩
        have f4 : I4 2 0 = nI (L.length + 1) := by rw [e4, sI_n _ _ (by decide)]; exact f3
        rw [f4, nI_pred]
        have m3 : ∀ j, I4 3 j = if j = L.length then nI k else I 3 j := fun j => by rw [e4, sI_n _ _ (by decide), e3, sI_n _ _ (by decide), e2, sI_n _ _ (by decide), e1, sI_s, upd_at]
        have m4 : ∀ j, I4 4 j = if j = L.length then nI ((hsh (nI k) + t) % 512) else I 4 j := fun j => by rw [e4, sI_n _ _ (by decide), e3, sI_n _ _ (by decide), e2, sI_s, upd_at, e1, sI_n _ _ (by decide)]
        have m5 : ∀ j, I4 5 j = if j = (hsh (nI k) + t) % 512 then nI (L.length + 1) else I 5 j := fun j => by rw [e4, sI_s, upd_at, e3, sI_n _ _ (by decide), e2, sI_n _ _ (by decide), e1, sI_n _ _ (by decide)]
        have hne : ∀ i, i < L.length → sl i ≠ (hsh (nI k) + t) % 512 := fun i hi e => by
          have := (h5 i hi).2.2
          rw [e, h0] at this
          exact nI_ne0 (by omega) (by omega) this.symm
        refine q3 hno (by omega) I4 ⟨by rw [f4]; simp, by simp; omega, ?_, ?_, fun i => if i = L.length then (hsh (nI k) + t) % 512 else sl i, ?_, ?_, ?_⟩ (fun j j1 j2 j3 j4 => by rw [e4, sI_n _ _ j4, e3, sI_n _ _ j1, e2, sI_n _ _ j3, e1, sI_n _ _ j2]) (fun j hj => by rw [e4, sI_n _ _ (by decide), e3, sI_s, pk_un hj, e2, sI_n _ _ (by decide), e1, sI_n _ _ (by decide)])
        · have := pushL_nd (k := k) h3
          unfold pushL at this
          rw [if_neg hno] at this
          exact this
        · intro i x hx
          rcases app_get hx with ⟨u1, u2⟩ | ⟨u1, u2⟩
          · rw [m3, if_neg (by omega)]; exact h4 i x u2
          · rw [m3, if_pos u1, u2]; exact ⟨hk, rfl⟩
        · intro i hi
          simp at hi
          by_cases hil : i = L.length
          · simp only [hil, if_true]
            rw [m4, m5, if_pos rfl, if_pos rfl]
            exact ⟨hq, rfl, rfl⟩
          · simp only [hil, if_false]
            rw [m4, m5, if_neg hil, if_neg (hne i (by omega))]
            exact h5 i (by omega)
        · intro q' hq' hn
          have h1' := hn L.length (by simp)
          simp only [if_true] at h1'
          rw [m5, if_neg (fun e => h1' e.symm)]
          refine h6 q' hq' (fun i hi => ?_)
          have := hn i (by simp; omega)
          simp only at this
          rw [if_neg (by omega)] at this
          exact this
        · intro i x hx
          have hmono : ∀ q', I 5 q' ≠ 0 → I4 5 q' ≠ 0 := fun q' h => by
            rw [m5]
            split
            · exact nI_ne0 (by omega) (by omega)
            · exact h
          rcases app_get hx with ⟨u1, u2⟩ | ⟨u1, u2⟩
          · obtain ⟨d, d1, d2, d3⟩ := h7 i x u2
            refine ⟨d, d1, ?_, fun e he => hmono _ (d3 e he)⟩
            simp only
            rw [if_neg (by omega)]
            exact d2
          · subst u2
            refine ⟨t, by omega, ?_, fun e he => hmono _ (b2 e he)⟩
            simp only
            rw [if_pos u1]
    · have hx := List.getElem?_eq_getElem hi
      obtain ⟨x1, x2⟩ := h4 i _ hx
      rw [e2, nI_pred, if_neg (nI0_lt (by omega)), if_pos (nI0_le (by omega)), if_pos (nI0_le (by omega)), vpN (by omega), nI_clamp (by omega), x2]
      refine ⟨by omega, ?_⟩
      by_cases ek : L[i] = k
      · rw [if_pos (by rw [ek])]
        exact q1 i (by rw [hx, ek])
      · rw [if_neg (by rw [eqNN x1 hk]; exact ek), nI_1, nI_1, l512, pk_rem (by omega) (by decide) (by decide), hstep, forall_eq, forall_eq]
        refine ih (t + 1) ⟨by omega, fun e he => ?_, fun j hj e he => ?_⟩ (by omega)
        · by_cases het : e = t
          · rw [het, e2]; exact nI_ne0 (by omega) (by omega)
          · exact b2 e (by omega)
        · by_cases het : e = t
          · rw [het]
            intro hc
            have hjl := (List.getElem?_eq_some_iff.mp hj).1
            have := (h5 j hjl).2.2
            rw [hc, e2, eqNN (by omega) (by omega)] at this
            have : i = j := by omega
            subst this
            rw [hx] at hj
            cases hj
            exact ek rfl
          · exact b3 j hj e (by omega)
