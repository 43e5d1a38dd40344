/-! draw -/
def stir (x : Int32) : Int32 := 1103515245 * x + 12345
def bel (x : Int32) (m : Nat) : Nat := (x.toBitVec.toNat / 65536) % m
theorem ush16 (x : Int32) : (x.toUInt32 >>> ((16 : Int32).toUInt32 &&& Int32.toUInt32 31)).toInt32 = nI (x.toBitVec.toNat / 65536) := by
  have h := pk_ushr x 16 16 (by decide)
  have hx := x.toBitVec.isLt
  refine Int32.toBitVec_inj.mp (BitVec.eq_of_toNat_eq ?_)
  rw [h, pk_tn (by omega)]
theorem s_below {x : Int32} {m : Nat} {I : MI} {J : MJ} {Q : Int32 → MI → MJ → Prop} (h0 : 0 < m) (hm : m < 2 ^ 31) : f_Machine_below x (nI m) I J Q ↔ Q (nI (bel x m)) I J := by
  have hx := x.toBitVec.isLt
  unfold f_Machine_below bel
  rw [if_pos (show (1 : Int32) ≤ nI m by rw [l1, leNN (by decide) hm]; omega), ush16, pk_rem (by omega) h0 hm]
  exact ⟨fun z => z.2, fun z => ⟨nI_ne0 h0 hm, z⟩⟩
theorem m_next {m : Nat} {I : MI} {J : MJ} {Q : Int32 → MI → MJ → Prop} (h0 : 0 < m) (hm : m < 2 ^ 31) : f_Model_next (nI m) I J Q ↔ Q (nI (bel (stir (I 177 26)) m)) (sI I 177 (upd (I 177) 26 (stir (I 177 26)))) J := by
  unfold f_Model_next bel
  have hx := (stir (I 177 26)).toBitVec.isLt
  constructor
  · intro h
    have := (h _ rfl).2
    rw [sI_s, pk_us, ush16] at this
    change Q (_) _ _ at this
    rw [show (1103515245 * I 177 26 + 12345) = stir (I 177 26) from rfl] at this
    rw [pk_andN (by omega) 16 (by decide), pk_rem (by omega) h0 hm, show (2 : Nat) ^ 16 = 65536 by decide, Nat.mod_eq_of_lt (show (stir (I 177 26)).toBitVec.toNat / 65536 < 65536 by omega)] at this
    exact this
  · intro h I1 e1
    refine ⟨nI_ne0 h0 hm, ?_⟩
    have e2 : I1 177 26 = stir (I 177 26) := by rw [e1, sI_s, pk_us]; rfl
    rw [e2, ush16, pk_andN (by omega) 16 (by decide), pk_rem (by omega) h0 hm, show (2 : Nat) ^ 16 = 65536 by decide, Nat.mod_eq_of_lt (show (stir (I 177 26)).toBitVec.toNat / 65536 < 65536 by omega), e1]
    exact h
def drR (n kd : Nat) : Int32 → ROW → ROW × Int32
  | x, [] => ([], x)
  | x, y :: r => if kd = 3 then ((some (bel (stir x) n), bel (stir (stir x)) 4) :: (drR n kd (stir (stir x)) r).1, (drR n kd (stir (stir x)) r).2) else ((some (bel (stir x) n), y.2) :: (drR n kd (stir x) r).1, (drR n kd (stir x) r).2)
def drS (n kd : Nat) (x : Int32) (q : Option ROW × Nat) : (Option ROW × Nat) × Int32 := match q.1 with
  | none => ((none, bel (stir x) (if kd = 0 then 2 else 8)), stir x)
  | some r => ((some (drR n kd x r).1, bel (stir (drR n kd x r).2) (if kd = 0 then 2 else 8)), stir (drR n kd x r).2)
def drL (n kd : Nat) : Int32 → List (Option ROW × Nat) → List (Option ROW × Nat)
  | _, [] => []
  | x, q :: l => (drS n kd x q).1 :: drL n kd (drS n kd x q).2 l
def opDraw (x v : Int32) (σ : SG) : Int32 × SG := match maC σ x with
  | none => ref (fMa σ x) σ
  | some A => don 0 (setA σ x (A.1, A.2.1, drL (aN A) A.1 v A.2.2))
theorem s_stir {x : Int32} {I : MI} {J : MJ} {Q : Int32 → MI → MJ → Prop} : f_Machine_stirred x I J Q ↔ Q (1103515245 * x + 12345) I J := Iff.rfl
theorem s_kindN {o : Nat} {I : MI} {J : MJ} {Q : Int32 → MI → MJ → Prop} : f_Machine_answersOfKind o I J Q ↔ (if (I o 0) = 0 then Q 2 I J else Q 8 I J) := Iff.rfl
theorem bel_lt (x : Int32) {m : Nat} (h : 0 < m) : bel x m < m := Nat.mod_lt _ h
/-- the inner loop: what is still to be drawn of a row -/
theorem setX_row {A : AM} {i : Nat} {rd rr : ROW} {y y' : Option Nat × Nat} {v : Nat} (hz : A.2.2[i]? = some (some (rd ++ y :: rr), v)) : setX A i rd.length y' = setQ A i (some (rd ++ y' :: rr), v) := by
  unfold setX
  rw [stQ_of hz]
  simp
theorem setQ_get {A : AM} {i : Nat} {q : Option ROW × Nat} (hi : i < aN A) : (setQ A i q).2.2[i]? = some q := by
  simp [setQ, List.getElem?_set_self (show i < A.2.2.length from hi)]
theorem setQ_setQ {A : AM} {i : Nat} {q q' : Option ROW × Nat} : setQ (setQ A i q) i q' = setQ A i q' := by simp [setQ]
theorem setQ_id {A : AM} {i : Nat} {q : Option ROW × Nat} (h : A.2.2[i]? = some q) : setQ A i q = A := by
  unfold setQ
  have : A.2.2.set i q = A.2.2 := by
    apply List.ext_getElem?
    intro j
    by_cases hij : i = j
    · subst hij
      rw [List.getElem?_set_self (List.getElem?_eq_some_iff.mp h).1, h]
    · rw [List.getElem?_set_ne hij]
  rw [this]
theorem S_drawR {p i : Nat} {A : AM} {v : Nat} {r : ROW} {x : Int32} {I : MI} {J : MJ} {σ : SG} {K : Int32 → MI → MJ → Prop} (hp : p < 16) (h : AbsS I J (setA σ (nI p) A)) (hz : A.2.2[i]? = some (some r, v)) (k : ∀ I', FrS I I' J J → AbsS I' J (setA σ (nI p) (setQ A i (some (drR (aN A) A.1 x r).1, v))) → K (drR (aN A) A.1 x r).2 I' J) : ∃ n, f_Machine_fillByNumbers_L15 (1 + 64 + 7 * p + 1) (nI i) K n x 0 I J := by
  have hv : VA A := by have := (h.1 p hp).1; rw [setA_atN hp] at this; exact this.2.2
  have hi := (List.getElem?_eq_some_iff.mp hz).1
  have h14 := (hv.row4 hz).1
  have hn1 := hv.2.2.2.1
  refine lp4 (fun n (u1_ : ROW) (u2_ : ROW) (u3_ : Int32) (u4_ : MI) => f_Machine_fillByNumbers_L15 (1 + 64 + 7 * p + 1) (nI i) K n u3_ (nI u1_.length) u4_ J) (fun u1_ u2_ u3_ u4_ => AbsS u4_ J (setA σ (nI p) (setQ A i (some (u1_ ++ u2_), v))) ∧ FrS I u4_ J J ∧ drR (aN A) A.1 x r = (u1_ ++ (drR (aN A) A.1 u3_ u2_).1, (drR (aN A) A.1 u3_ u2_).2)) (fun u1_ u2_ u3_ u4_ => u2_.length) ?_ [] r x I ⟨by simp only [List.nil_append]; rw [setQ_id hz]; exact h, FrS.rf, by simp⟩
  rintro n rd rr x1 I1 ⟨a1, a2, a3⟩ ih
  have hP := (a1.1 p hp).1
  rw [setA_atN hp] at hP
  obtain ⟨g1, g2, g3⟩ := hP
  have hz1 : (setQ A i (some (rd ++ rr), v)).2.2[i]? = some (some (rd ++ rr), v) := setQ_get hi
  have hl4 := (g3.row4 hz1).2 _ rfl
  rw [List.length_append] at hl4
  have hk : (setQ A i (some (rd ++ rr), v)).1 = A.1 := rfl
  unfold f_Machine_fillByNumbers_L15
  rw [vpN (by omega), nI_clamp (by omega), ((g2.2.2.2 i _ hz1).2.2 _ rfl).1]
  refine ⟨h14, ?_⟩
  simp only [List.length_append, leNN (show rd.length + rr.length < 2 ^ 31 by omega) (show rd.length < 2 ^ 31 by omega)]
  cases rr with
  | nil =>
    rw [if_pos (by simp)]
    have e1 : (drR (aN A) A.1 x r).1 = rd := by rw [a3]; simp [drR]
    have e2 : (drR (aN A) A.1 x r).2 = x1 := by rw [a3]; simp [drR]
    rw [e1, e2] at k
    rw [List.append_nil] at a1
    exact k I1 a2 a1
  | cons y rr =>
    rw [if_neg (by simp)]
    simp only [List.length_cons] at hl4
    rw [s_stir, g2.2.1, setQ_n, s_below (by omega) hv.n31, l4, pk_mul, nI_add, nI_clamp (by omega), vpN (by omega)]
    refine ⟨by omega, fun I2 e2 => ?_⟩
    have hyg : (rd ++ y :: rr)[rd.length]? = some y := by simp
    obtain ⟨y1, y2, y3⟩ := ((g3.2.2.2.2.2 _ (List.mem_of_getElem? hz1)).2.2 _ rfl).2 y (by simp)
    have b1 := a1.setX (v := nI (bel (1103515245 * x1 + 12345) (aN A))) hp (setA_atN hp) hz1 rfl hyg (y' := (some (bel (stir x1) (aN A)), y.2)) (t := 2) (fun t ht => by cases ht; rw [setQ_n]; exact bel_lt _ hn1) (fun _ hh => by cases hh) y2 y3 (Or.inl ⟨rfl, rfl, rfl⟩) e2
    rw [setA_f hp, setX_row hz1, setQ_setQ] at b1
    have c1 : FrS I I2 J J := a2.tr ⟨fun j hj => by rw [e2, sI_n _ _ (by omega)], fun _ _ => rfl⟩
    have hI2 : I2 (1 + 64 + 7 * p + 1) 0 = nI A.1 := by rw [e2, sI_n _ _ (by omega)]; exact g2.1
    rw [hI2]
    unfold f_Machine_fillByNumbers_b79
    by_cases h3 : A.1 = 3
    · rw [if_pos (show nI A.1 = 3 by rw [h3]; rfl), s_stir, s_below (by decide) (by decide)]
      refine ⟨by omega, fun I3 e3 t et => ?_⟩
      rw [et, nI_1]
      have hP2 := (b1.1 p hp).1
      rw [setA_atN hp] at hP2
      have hz2 : (setQ A i (some (rd ++ (some (bel (stir x1) (aN A)), y.2) :: rr), v)).2.2[i]? = some (some (rd ++ (some (bel (stir x1) (aN A)), y.2) :: rr), v) := setQ_get hi
      have hyg2 : (rd ++ (some (bel (stir x1) (aN A)), y.2) :: rr)[rd.length]? = some (some (bel (stir x1) (aN A)), y.2) := by simp
      have b2 := b1.setX (v := nI (bel (1103515245 * (1103515245 * x1 + 12345) + 12345) 4)) hp (setA_atN hp) hz2 rfl hyg2 (y' := (some (bel (stir x1) (aN A)), bel (stir (stir x1)) 4)) (t := 3) (fun t ht => by cases ht; rw [setQ_n]; exact bel_lt _ hn1) (fun _ hh => by cases hh) (by have := bel_lt (stir (stir x1)) (m := 4) (by decide); show bel _ 4 ≤ 3; omega) (fun hh => absurd h3 hh) (Or.inr ⟨rfl, rfl, rfl⟩) e3
      rw [setA_f hp, setX_row hz2, setQ_setQ] at b2
      have := ih (rd ++ [(some (bel (stir x1) (aN A)), bel (stir (stir x1)) 4)]) rr (stir (stir x1)) I3 ⟨by simp only [List.append_assoc, List.singleton_append]; exact b2, c1.tr ⟨fun j hj => by rw [e3, sI_n _ _ (by omega)], fun _ _ => rfl⟩, by rw [a3]; simp [drR, h3]⟩ (by simp)
      simp only [List.length_append, List.length_singleton] at this
      exact this
    · rw [if_neg (show ¬ nI A.1 = 3 by rw [l3, eqNN (by have := hv.1; omega) (by decide)]; exact h3)]
      intro t et
      rw [et, nI_1]
      have := ih (rd ++ [(some (bel (stir x1) (aN A)), y.2)]) rr (stir x1) I2 ⟨by simp only [List.append_assoc, List.singleton_append]; exact b1, c1, by rw [a3]; simp [drR, h3]⟩ (by simp)
      simp only [List.length_append, List.length_singleton] at this
      exact this
