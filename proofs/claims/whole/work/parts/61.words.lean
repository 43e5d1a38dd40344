/-! words: numbers of base 4 behind a leading 1 -/
theorem wb_tb (n : Nat) : (lN n).toBitVec = BitVec.ofNat 64 n := rfl
theorem wb_inj {a b : Int64} (h : a.toBitVec = b.toBitVec) : a = b := Int64.toBitVec_inj.mp h
theorem wb_tn {n : Nat} (h : n < 2 ^ 64) : (lN n).toBitVec.toNat = n := by rw [wb_tb, BitVec.toNat_ofNat, Nat.mod_eq_of_lt h]
theorem wb_of (x : Int64) : ∃ n, n < 2 ^ 64 ∧ x = lN n := ⟨x.toBitVec.toNat, x.toBitVec.isLt, wb_inj (by rw [wb_tb]; simp)⟩
theorem wb_c : ∀ k, k < 64 → ((nI k).toInt64 &&& 63) = lN k := by decide +kernel
theorem wb_sm : ∀ k, k < 64 → (BitVec.ofNat 64 k).smod 64 = BitVec.ofNat 64 k := by decide +kernel
theorem wb_lt2 {a b : Nat} (h : a < b) : 2 ^ a < 2 ^ b := Nat.pow_lt_pow_right (by decide) h
theorem wb_mod (n : Nat) : lN n = lN (n % 2 ^ 64) := wb_inj (by rw [wb_tb, wb_tb]; apply BitVec.eq_of_toNat_eq; rw [BitVec.toNat_ofNat, BitVec.toNat_ofNat, Nat.mod_mod])
theorem wb_shl (n : Nat) {k : Nat} (hk : k < 64) : lN n <<< ((nI k).toInt64 &&& 63) = lN (n * 2 ^ k) := by
  rw [wb_c k hk]
  apply wb_inj
  rw [Int64.toBitVec_shiftLeft, wb_tb, wb_tb, wb_tb, wb_sm k hk]
  apply BitVec.eq_of_toNat_eq
  rw [BitVec.shiftLeft_eq', BitVec.toNat_shiftLeft, BitVec.toNat_ofNat, BitVec.toNat_ofNat, BitVec.toNat_ofNat, Nat.mod_eq_of_lt (show k < 2 ^ 64 by omega), Nat.shiftLeft_eq, Nat.mul_mod, Nat.mod_mod, ← Nat.mul_mod]
theorem wb_and {a b : Nat} (ha : a < 2 ^ 64) (hb : b < 2 ^ 64) : lN a &&& lN b = lN (a &&& b) := by
  apply wb_inj
  rw [Int64.toBitVec_and, wb_tb, wb_tb, wb_tb]
  apply BitVec.eq_of_toNat_eq
  rw [BitVec.toNat_and, BitVec.toNat_ofNat, BitVec.toNat_ofNat, BitVec.toNat_ofNat, Nat.mod_eq_of_lt ha, Nat.mod_eq_of_lt hb, Nat.mod_eq_of_lt (Nat.and_lt_two_pow _ hb)]
theorem wb_mask {n k : Nat} (hn : n < 2 ^ 64) (hk : k < 64) : lN n &&& lN (2 ^ k - 1) = lN (n % 2 ^ k) := by
  rw [wb_and hn (by have := wb_lt2 hk; omega), Nat.and_two_pow_sub_one_eq_mod]
theorem l_shr (x : Int64) {k : Nat} (hk : k < 64) : (x >>> ((nI k).toInt64 &&& 63)).toInt = x.toInt >>> k := by
  rw [wb_c k hk]
  show (x.toBitVec.sshiftRight ((lN k).toBitVec.smod 64).toNat).toInt = _
  rw [wb_tb, wb_sm k hk, BitVec.toNat_ofNat, Nat.mod_eq_of_lt (by omega), BitVec.toInt_sshiftRight]
  rfl
theorem l_shrN {n k : Nat} (hn : n < 2 ^ 63) (hk : k < 64) : lN n >>> ((nI k).toInt64 &&& 63) = lN (n / 2 ^ k) := by
  apply Int64.toInt_inj.mp
  have h2 : n / 2 ^ k ≤ n := Nat.div_le_self _ _
  rw [l_shr _ hk, pk_lT hn, pk_lT (by omega), Int.shiftRight_eq_div_pow]
  rfl
theorem p4 (m : Nat) : 2 ^ (2 * m) = 4 ^ m := by rw [Nat.pow_mul]
theorem num_app (w : List Nat) (a : Nat) : num (w ++ [a]) = 4 * num w + a := by simp [num, List.foldl_append]
theorem num_b : ∀ (w : List Nat) (n : Nat), (∀ a ∈ w, a < 4) → n * 4 ^ w.length ≤ w.foldl (fun n a => 4 * n + a) n ∧ w.foldl (fun n a => 4 * n + a) n < (n + 1) * 4 ^ w.length
  | [], n, _ => by simp
  | a :: w, n, h => by
    have ha := h a (by simp)
    obtain ⟨h1, h2⟩ := num_b w (4 * n + a) (fun b hb => h b (by simp [hb]))
    simp only [List.foldl_cons, List.length_cons]
    have e1 : n * 4 ^ (w.length + 1) = (4 * n) * 4 ^ w.length := by rw [Nat.pow_succ, Nat.mul_comm (4 ^ w.length) 4, ← Nat.mul_assoc, Nat.mul_comm n 4]
    have e2 : (n + 1) * 4 ^ (w.length + 1) = (4 * n + 4) * 4 ^ w.length := by rw [Nat.pow_succ, Nat.mul_comm (4 ^ w.length) 4, ← Nat.mul_assoc]; congr 1; omega
    rw [e1, e2]
    exact ⟨Nat.le_trans (Nat.mul_le_mul_right _ (by omega)) h1, Nat.lt_of_lt_of_le h2 (Nat.mul_le_mul_right _ (by omega))⟩
theorem num_lo {w : List Nat} (h : ∀ a ∈ w, a < 4) : 4 ^ w.length ≤ num w := by have := (num_b w 1 h).1; simpa [num] using this
theorem num_hi {w : List Nat} (h : ∀ a ∈ w, a < 4) : num w < 2 * 4 ^ w.length := by have := (num_b w 1 h).2; simpa [num] using this
theorem take_s {w : List Nat} {i : Nat} (h : i < w.length) : w.take (i + 1) = w.take i ++ [w[i]] := by
  rw [List.take_add_one, List.getElem?_eq_getElem h]; rfl
theorem num_div {w : List Nat} (h : ∀ a ∈ w, a < 4) : ∀ m, m ≤ w.length → num w / 4 ^ m = num (w.take (w.length - m))
  | 0, _ => by simp
  | m + 1, hm => by
    rw [Nat.pow_succ, ← Nat.div_div_eq_div_mul, num_div h m (by omega), show w.length - m = (w.length - (m + 1)) + 1 by omega, take_s (by omega), num_app]
    have : w[w.length - (m + 1)]'(by omega) < 4 := h _ (List.getElem_mem _)
    omega
theorem num_60 {w : List Nat} (h : wOk w) : num w < 2 ^ 61 := by
  have h1 := num_hi h.2
  have h2 : 4 ^ w.length ≤ 4 ^ 30 := Nat.pow_le_pow_right (by decide) h.1
  have h3 : (4 : Nat) ^ 30 = 2 ^ 60 := by decide
  have h4 : (2 : Nat) ^ 61 = 2 * 2 ^ 60 := by decide
  omega
theorem num_1 {w : List Nat} (h : ∀ a ∈ w, a < 4) (h1 : num w = 1) : w = [] := by
  have := num_lo h
  rw [h1] at this
  cases w with
  | nil => rfl
  | cons a w =>
    exfalso
    have : 4 ^ 1 ≤ 4 ^ (a :: w).length := Nat.pow_le_pow_right (by decide) (by simp)
    omega
theorem num_ex : ∀ (m k : Nat), 4 ^ m ≤ k → k < 2 * 4 ^ m → ∃ w : List Nat, w.length = m ∧ (∀ a ∈ w, a < 4) ∧ k = num w
  | 0, k, h1, h2 => ⟨[], rfl, (fun a h => by cases h), by simp [num] at *; omega⟩
  | m + 1, k, h1, h2 => by
    rw [Nat.pow_succ] at h1 h2
    obtain ⟨w, e1, e2, e3⟩ := num_ex m (k / 4) (by omega) (by omega)
    refine ⟨w ++ [k % 4], by simp [e1], fun a ha => ?_, ?_⟩
    · rcases List.mem_append.mp ha with h | h
      · exact e2 a h
      · simp at h; omega
    · rw [num_app, ← e3]; omega
theorem num_get {w : List Nat} (h : ∀ a ∈ w, a < 4) {i : Nat} (hi : i < w.length) : num w / 4 ^ (w.length - 1 - i) % 4 = w[i] := by
  rw [num_div h _ (by omega), show w.length - (w.length - 1 - i) = i + 1 by omega, take_s hi, num_app]
  have : w[i] < 4 := h _ (List.getElem_mem _)
  omega
theorem num_inj {w v : List Nat} (hw : ∀ a ∈ w, a < 4) (hv : ∀ a ∈ v, a < 4) (e : num w = num v) : w = v := by
  have hl : w.length = v.length := by
    have a1 := num_lo hw; have a2 := num_hi hw; have b1 := num_lo hv; have b2 := num_hi hv
    rcases Nat.lt_trichotomy w.length v.length with h | h | h
    · exfalso
      have : 4 ^ (w.length + 1) ≤ 4 ^ v.length := Nat.pow_le_pow_right (by decide) h
      rw [Nat.pow_succ] at this; omega
    · exact h
    · exfalso
      have : 4 ^ (v.length + 1) ≤ 4 ^ w.length := Nat.pow_le_pow_right (by decide) h
      rw [Nat.pow_succ] at this; omega
  refine List.ext_getElem hl (fun i h1 h2 => ?_)
  rw [← num_get hw h1, ← num_get hv h2, e, hl]
theorem wd_inj {w v : List Nat} (hw : wOk w) (hv : wOk v) (e : lN (num w) = lN (num v)) : w = v := by
  have h1 := num_60 hw
  have h2 := num_60 hv
  exact num_inj hw.2 hv.2 ((pk_lEQ (by omega) (by omega)).mp e)
noncomputable section
def decW (x : Int64) : Option (List Nat) := by classical exact if h : ∃ w, wOk w ∧ x = lN (num w) then some (Classical.choose h) else none
end
theorem decW_ok {w : List Nat} (h : wOk w) : decW (lN (num w)) = some w := by
  have hex : ∃ v, wOk v ∧ lN (num w) = lN (num v) := ⟨w, h, rfl⟩
  unfold decW
  rw [dif_pos hex]
  have := Classical.choose_spec hex
  rw [wd_inj this.1 h this.2.symm]
theorem decW_no {x : Int64} (h : ¬ isWd x) : decW x = none := by
  unfold decW
  rw [dif_neg]
  rintro ⟨w, h1, h2⟩
  exact h ⟨w, h1.1, h1.2, h2⟩
theorem wd_cases (x : Int64) : (∃ w, wOk w ∧ x = lN (num w) ∧ decW x = some w) ∨ (¬ isWd x ∧ decW x = none) := by
  by_cases h : isWd x
  · obtain ⟨w, h1, h2, rfl⟩ := h
    exact Or.inl ⟨w, ⟨h1, h2⟩, rfl, decW_ok ⟨h1, h2⟩⟩
  · exact Or.inr ⟨h, decW_no h⟩
theorem shr_num {w : List Nat} (hw : wOk w) {m : Nat} (hm : m < 32) : lN (num w) >>> ((2 * nI m).toInt64 &&& 63) = lN (num w / 4 ^ m) := by
  have := num_60 hw
  rw [l2, pk_mul, l_shrN (by omega) (by omega), p4]
theorem shr_one {w : List Nat} (hw : wOk w) {m : Nat} (hm : m < 32) : lN (num w) >>> ((2 * nI m).toInt64 &&& 63) = 1 ↔ m = w.length := by
  have h61 := num_60 hw
  have hd : num w / 4 ^ m ≤ num w := Nat.div_le_self _ _
  rw [shr_num hw hm, show (1 : Int64) = lN 1 from rfl, pk_lEQ (by omega) (by decide)]
  constructor
  · intro e
    by_cases h : m ≤ w.length
    · rw [num_div hw.2 m h] at e
      have := num_1 (fun a ha => hw.2 a (List.mem_of_mem_take ha)) e
      have := congrArg List.length this
      simp at this
      omega
    · exfalso
      have h1 := num_hi hw.2
      have h2 : 4 ^ (w.length + 1) ≤ 4 ^ m := Nat.pow_le_pow_right (by decide) (by omega)
      rw [Nat.pow_succ] at h2
      rw [Nat.div_eq_of_lt (by omega)] at e
      omega
  · rintro rfl
    rw [num_div hw.2 _ (Nat.le_refl _)]
    simp [num]
theorem shr_wd {x : Int64} {m : Nat} (hm : m ≤ 30) (h : x >>> ((2 * nI m).toInt64 &&& 63) = 1) : isWd x ∧ 0 < x := by
  have e := congrArg Int64.toInt h
  rw [l2, pk_mul, l_shr _ (by omega), Int.shiftRight_eq_div_pow, show (1 : Int64).toInt = 1 from by decide] at e
  have hp : (0 : Int) < ((2 ^ (2 * m) : Nat) : Int) := by have : 0 < 2 ^ (2 * m) := Nat.pow_pos (by decide); omega
  have hx0 : 0 < x.toInt := by
    by_cases h0 : 0 < x.toInt
    · exact h0
    · exfalso
      have := Int.ediv_le_ediv hp (show x.toInt ≤ 0 by omega)
      rw [e, Int.zero_ediv] at this
      omega
  have hx : ¬ x < 0 := fun hh => by
    rw [Int64.lt_iff_toInt_lt, show (0 : Int64).toInt = 0 from by decide] at hh; omega
  obtain ⟨k, hk, rfl⟩ := pk_lOf hx
  rw [pk_lT hk] at e hx0
  have e2 : k / 4 ^ m = 1 := by
    rw [← p4]
    have : ((k / 2 ^ (2 * m) : Nat) : Int) = 1 := by rw [Int.natCast_ediv]; exact e
    omega
  have hp4 : 0 < 4 ^ m := Nat.pow_pos (by decide)
  have hlo : 4 ^ m ≤ k := by
    by_cases h : 4 ^ m ≤ k
    · exact h
    · rw [Nat.div_eq_of_lt (by omega)] at e2; omega
  have hhi : k < 2 * 4 ^ m := by
    have := Nat.lt_div_mul_add hp4 (a := k)
    rw [e2] at this; omega
  obtain ⟨w, f1, f2, rfl⟩ := num_ex m k hlo hhi
  refine ⟨⟨w, by omega, f2, rfl⟩, ?_⟩
  rw [Int64.lt_iff_toInt_lt, pk_lT hk]
  exact hx0
theorem wd_pos {w : List Nat} (hw : wOk w) : ¬ lN (num w) ≤ 0 := by
  have h1 := num_60 hw
  have h2 := num_lo hw.2
  have h3 : 0 < 4 ^ w.length := Nat.pow_pos (by decide)
  rw [show (0 : Int64) = lN 0 from rfl, pk_lLE (by omega) (by decide)]
  omega
/-! the lengths -/
theorem s_len {w : List Nat} {I : MI} {J : MJ} {Q : Int32 → MI → MJ → Prop} (hw : wOk w) (q : Q (nI w.length) I J) : f_Words_lengthOf (lN (num w)) I J Q := by
  unfold f_Words_lengthOf
  refine lp1 (fun n (m : Nat) => f_Words_lengthOf_L2 (lN (num w)) _ _ n (nI m) I J) (fun m => m ≤ w.length) (fun m => 31 - m) ?_ 0 (Nat.zero_le _)
  intro n m hm ih
  have h30 := hw.1
  unfold f_Words_lengthOf_L2
  rw [if_neg (show ¬ (30 : Int32) < nI m by rw [l30, ltNN (by decide) (by omega)]; omega)]
  by_cases e : m = w.length
  · rw [if_pos ((shr_one hw (by omega)).mpr e), e]
    exact q
  · rw [if_neg (fun hh => e ((shr_one hw (by omega)).mp hh))]
    intro t et
    rw [et, nI_1]
    exact ih (m + 1) (by omega) (by omega)
theorem s_lenB {x : Int64} {I : MI} {J : MJ} {Q : Int32 → MI → MJ → Prop} (hx : ¬ isWd x) (q : Q (-1) I J) : f_Words_lengthOf x I J Q := by
  unfold f_Words_lengthOf
  refine lp1 (fun n (m : Nat) => f_Words_lengthOf_L2 x _ _ n (nI m) I J) (fun m => m ≤ 31) (fun m => 32 - m) ?_ 0 (Nat.zero_le _)
  intro n m hm ih
  unfold f_Words_lengthOf_L2
  by_cases e : m = 31
  · rw [if_pos (show (30 : Int32) < nI m by rw [e]; decide)]
    exact q
  · rw [if_neg (show ¬ (30 : Int32) < nI m by rw [l30, ltNN (by decide) (by omega)]; omega), if_neg (fun hh => hx (shr_wd (by omega) hh).1)]
    intro t et
    rw [et, nI_1]
    exact ih (m + 1) (by omega) (by omega)
theorem m_len {w : List Nat} {I : MI} {J : MJ} {Q : Int32 → MI → MJ → Prop} (hw : wOk w) (q : Q (nI w.length) I J) : f_Model_lengthOf (lN (num w)) I J Q := by
  unfold f_Model_lengthOf
  have h30 := hw.1
  refine lp2 (fun n (u1_ : Nat) (u2_ : Int32) => f_Model_lengthOf_L4 (lN (num w)) _ n u2_ (nI u1_) I J) (fun u1_ u2_ => u1_ ≤ 31 ∧ (w.length < u1_ → u2_ = nI w.length)) (fun u1_ u2_ => 32 - u1_) ?_ 0 (-1) ⟨by decide, fun h => absurd h (by simp)⟩
  rintro n m z ⟨hm, hz⟩ ih
  unfold f_Model_lengthOf_L4
  by_cases e : m = 31
  · rw [if_pos (show (30 : Int32) < nI m by rw [e]; decide), hz (by omega)]
    exact q
  · rw [if_neg (show ¬ (30 : Int32) < nI m by rw [l30, ltNN (by decide) (by omega)]; omega), if_neg (wd_pos hw)]
    unfold f_Model_lengthOf_b30 f_Model_lengthOf_b31
    by_cases e2 : m = w.length
    · rw [if_pos ((shr_one hw (by omega)).mpr e2)]
      intro t et
      rw [et, nI_1]
      exact ih (m + 1) (nI m) ⟨by omega, fun _ => by rw [e2]⟩ (by omega)
    · rw [if_neg (fun hh => e2 ((shr_one hw (by omega)).mp hh))]
      intro t et
      rw [et, nI_1]
      exact ih (m + 1) z ⟨by omega, fun hh => hz (by omega)⟩ (by omega)
theorem m_lenB {x : Int64} {I : MI} {J : MJ} {Q : Int32 → MI → MJ → Prop} (hx : ¬ isWd x) (q : Q (-1) I J) : f_Model_lengthOf x I J Q := by
  unfold f_Model_lengthOf
  refine lp1 (fun n (m : Nat) => f_Model_lengthOf_L4 x _ n (-1) (nI m) I J) (fun m => m ≤ 31) (fun m => 32 - m) ?_ 0 (Nat.zero_le _)
  intro n m hm ih
  unfold f_Model_lengthOf_L4
  by_cases e : m = 31
  · rw [if_pos (show (30 : Int32) < nI m by rw [e]; decide)]
    exact q
  · rw [if_neg (show ¬ (30 : Int32) < nI m by rw [l30, ltNN (by decide) (by omega)]; omega)]
    unfold f_Model_lengthOf_b30 f_Model_lengthOf_b31
    rw [if_neg (show ¬ x >>> ((2 * nI m).toInt64 &&& 63) = 1 from fun hh => hx (shr_wd (by omega) hh).1), ite_self]
    intro t et
    rw [et, nI_1]
    exact ih (m + 1) (by omega) (by omega)
theorem s_isW {w : List Nat} {I : MI} {J : MJ} {Q : Int32 → MI → MJ → Prop} (hw : wOk w) (q : Q 1 I J) : f_Words_isWord (lN (num w)) I J Q := by
  unfold f_Words_isWord
  refine s_len hw ?_
  have := hw.1
  rw [if_neg (lm1 (by omega))]
  exact q
theorem s_isWB {x : Int64} {I : MI} {J : MJ} {Q : Int32 → MI → MJ → Prop} (hx : ¬ isWd x) (q : Q 0 I J) : f_Words_isWord x I J Q := by
  unfold f_Words_isWord
  exact s_lenB hx (by rw [if_pos rfl]; exact q)
theorem m_isW {w : List Nat} {I : MI} {J : MJ} {Q : Int32 → MI → MJ → Prop} (hw : wOk w) (q : Q 1 I J) : f_Model_isWord (lN (num w)) I J Q := by
  unfold f_Model_isWord
  refine m_len hw ?_
  have := hw.1
  rw [if_neg (nI0_lt (by omega))]
  exact q
theorem m_isWB {x : Int64} {I : MI} {J : MJ} {Q : Int32 → MI → MJ → Prop} (hx : ¬ isWd x) (q : Q 0 I J) : f_Model_isWord x I J Q := by
  unfold f_Model_isWord
  exact m_lenB hx (by rw [if_pos (by decide)]; exact q)
theorem and3 (q : Nat) : nI q &&& 3 = nI (q % 4) := by
  rw [pk_and (nI q) 2 (by decide)]
  have : (nI q).toBitVec.toNat = q % 2 ^ 32 := by show (BitVec.ofNat 32 q).toNat = _; rw [BitVec.toNat_ofNat]
  rw [this]
  congr 1
  omega
theorem s_sign {w : List Nat} {b a : Nat} {I : MI} {J : MJ} {Q : Int32 → MI → MJ → Prop} (hw : wOk w) (hb : b < w.length) (ha : w[w.length - 1 - b]? = some a) : f_Words_signAt (lN (num w)) (nI b) I J Q ↔ Q (nI a) I J := by
  unfold f_Words_signAt
  have := hw.1
  obtain ⟨h1, h2⟩ := List.getElem?_eq_some_iff.mp ha
  rw [shr_num hw (by omega), lN_i, and3]
  have := num_get hw.2 h1
  rw [show w.length - 1 - (w.length - 1 - b) = b by omega] at this
  rw [this, h2]
theorem m_sign {w : List Nat} {i a : Nat} {I : MI} {J : MJ} {Q : Int32 → MI → MJ → Prop} (hw : wOk w) (ha : w[i]? = some a) : f_Model_signOf (lN (num w)) (nI w.length) (nI i) I J Q ↔ Q (nI a) I J := by
  unfold f_Model_signOf
  have := hw.1
  obtain ⟨h1, h2⟩ := List.getElem?_eq_some_iff.mp ha
  rw [l1, pk_sub (by omega), pk_sub (by omega), shr_num hw (by omega), lN_i, and3, num_get hw.2 h1, h2]
