/-! the reference's runs -/
/-- only the reference's two counters of a run have changed -/
def Sc (I I' : MI) : Prop := (∀ i, i ≠ 177 → I' i = I i) ∧ ∀ k, k ≠ 14 → k ≠ 15 → I' 177 k = I 177 k
theorem Sc.rf {I : MI} : Sc I I := ⟨fun _ _ => rfl, fun _ _ _ => rfl⟩
theorem Sc.tr {I I' I'' : MI} (h : Sc I I') (h' : Sc I' I'') : Sc I I'' := ⟨fun i hi => (h'.1 i hi).trans (h.1 i hi), fun k h1 h2 => (h'.2 k h1 h2).trans (h.2 k h1 h2)⟩
theorem Sc.u14 {I : MI} (v : Int32) : Sc I (sI I 177 (upd (I 177) 14 v)) := ⟨fun i hi => sI_n _ _ hi, fun k h1 _ => by rw [sI_s, pk_un h1]⟩
theorem Sc.u15 {I : MI} (v : Int32) : Sc I (sI I 177 (upd (I 177) 15 v)) := ⟨fun i hi => sI_n _ _ hi, fun k _ h2 => by rw [sI_s, pk_un h2]⟩
theorem Sc.rep {I I' : MI} {m : Nat} {A : AM} (h : Sc I I') (hA : RepM I m A) : RepM I' m A := by
  unfold RepM RowM at *
  rw [h.1 184 (by omega), h.1 185 (by omega), h.1 186 (by omega), h.1 187 (by omega), h.1 188 (by omega), h.1 189 (by omega), h.1 190 (by omega)]
  exact hA
theorem AbsM.sc {I I' : MI} {J : MJ} {σ : SG} (h : AbsM I J σ) (e : Sc I I') : AbsM I' J σ := h.s177 (fun k hk => e.2 k (by intro e; subst e; revert hk; decide) (by intro e; subst e; revert hk; decide)) e.1
theorem FrM.sc {I I' : MI} {J : MJ} (e : Sc I I') : FrM I I' J J := ⟨fun i hi => e.1 i (by omega), fun _ _ => rfl⟩
def atC (I : MI) (q : Nat × Nat) : Prop := I 177 14 = nI q.1 ∧ I 177 15 = nI q.2
theorem m_go135 {m s a t d : Nat} {A : AM} {I : MI} {J : MJ} {Q : Int32 → MI → MJ → Prop} (hm : m < 20) (hA : RepM I m A) (hv : VA A) {z : Option ROW × Nat} {r : ROW} {x : Option Nat × Nat} (hz : A.2.2[s]? = some z) (hr : z.1 = some r) (hx : r[a]? = some x) (ht : x.1 = some t) (q : ∀ I', Sc I I' → atC I' (t, d) → Q 1 I' J) : f_Model_go_b135 (nI m) (nI a) (nI s) (nI d) Q I J := by
  unfold f_Model_go_b135
  intro I1 e1
  have h14 := (hv.row4 hz).1
  have hl := (hv.row4 hz).2 r hr
  have har := (List.getElem?_eq_some_iff.mp hx).1
  rw [spotN, vpN (by omega), nI_clamp (by omega)]
  refine ⟨by omega, fun I2 e2 => ?_⟩
  have k := ((hA.2.2.2 s z hz).2.2 r hr).2 a x hx
  have e3 : I1 189 (4 * (14 * m + s) + a) = nI t := by rw [e1, sI_n _ _ (by omega), k.1, ht]; rfl
  rw [e3] at e2
  refine q I2 ?_ ⟨by rw [e2, sI_s, pk_us], by rw [e2, sI_s, pk_un (by decide), e1, sI_s, pk_us]⟩
  subst e2 e1
  exact (Sc.u15 _).tr (Sc.u14 _)
theorem m_go {m a : Nat} {sc : Nat × Nat} {A : AM} {I : MI} {J : MJ} {Q : Int32 → MI → MJ → Prop} (hm : m < 20) (hA : RepM I m A) (hv : VA A) (hs : sc.1 < aN A) (hc : sc.2 < 4) (ha : a < 4) (hat : atC I sc) (q0 : dl A sc a = none → Q 0 I J) (q1 : ∀ t, dl A sc a = some t → ∀ I', Sc I I' → atC I' t → Q 1 I' J) : f_Model_go (nI m) (nI a) I J Q := by
  obtain ⟨s, c⟩ := sc
  simp only at hs hc
  have h14 : s < 14 := by have := hv.2.2.2.2.1; omega
  unfold f_Model_go
  rw [forall_eq, hat.1, m_hasTk hm hA hv hs, tX_tk ha]
  unfold dl at q0 q1
  cases hx : tkO A s a with
  | none =>
    rw [if_pos (by simp)]
    exact q0 (by simp [hx])
  | some x =>
    obtain ⟨z, r, hz, hr, hg⟩ := tkO_inv hx
    obtain ⟨k1, k2, k3, k4, k5⟩ := tkO_v hv hx
    have kk := ((hA.2.2.2 s z hz).2.2 r hr).2 a x hg
    rw [if_neg isS1, spotN, vpN (by omega), nI_clamp (by omega), kk.1]
    refine ⟨by omega, ?_⟩
    simp only [hx, Option.bind_some] at q0 q1
    cases hy : x.1 with
    | none =>
      rw [if_neg (by decide)]
      exact q0 (by simp [hy])
    | some t =>
      have ht := k1 t hy
      have hn := hv.n31
      simp only [hy, Option.bind_some] at q0 q1
      rw [if_pos (show (0 : Int32) ≤ enO (some t) from nI0_le (by omega)), vpN (by omega), nI_clamp (by omega), hA.1]
      refine ⟨hm, ?_⟩
      have fin : ∀ h : Nat, h = x.2 → f_Model_go_b56 (nI m) (nI a) (nI s) (nI h) Q I J := by
        intro h hh
        unfold f_Model_go_b56 f_Model_go_b72 f_Model_go_b85 f_Model_go_b100
        rw [hat.2]
        simp only
        have go : ∀ d, cnt h c = some d → f_Model_go_b135 (nI m) (nI a) (nI s) (nI d) Q I J := fun d hd =>
          m_go135 hm hA hv hz hr hg hy (fun I' e1 e2 => q1 (t, d) (by rw [← hh, hd]; rfl) I' e1 e2)
        have stop : cnt h c = none → Q 0 I J := fun hn => q0 (by rw [← hh, hn]; rfl)
        have h4 : h = 0 ∨ h = 1 ∨ h = 2 ∨ h = 3 := by omega
        have c4 : c = 0 ∨ c = 1 ∨ c = 2 ∨ c = 3 := by omega
        rcases h4 with rfl | rfl | rfl | rfl <;> rcases c4 with rfl | rfl | rfl | rfl <;> first | exact stop rfl | exact go 0 rfl | exact go 1 rfl | exact go 2 rfl | exact go 3 rfl
      by_cases h3 : A.1 = 3
      · rw [if_pos (show nI A.1 = 3 by rw [h3]; rfl), spotN, vpN (by omega), nI_clamp (by omega), kk.2 h3]
        exact ⟨by omega, fin _ rfl⟩
      · rw [if_neg (show ¬ nI A.1 = 3 by rw [l3, eqNN (by have := hv.1; omega) (by decide)]; exact h3)]
        exact fin 0 (k3 h3).symm
theorem m_goAll {m i0 i1 : Nat} {w : List Nat} {sc : Nat × Nat} {A : AM} {I : MI} {J : MJ} {Q : Int32 → MI → MJ → Prop} (hm : m < 20) (hA : RepM I m A) (hv : VA A) (hs : sc.1 < aN A) (hc : sc.2 < 4) (hw : wOk w) (h01 : i0 ≤ i1) (h1 : i1 ≤ w.length) (hat : atC I sc) (q0 : run A sc ((w.take i1).drop i0) = none → ∀ I', Sc I I' → Q 0 I' J) (q1 : ∀ t, run A sc ((w.take i1).drop i0) = some t → ∀ I', Sc I I' → atC I' t → Q 1 I' J) : f_Model_goAll (nI m) (lN (num w)) (nI i0) (nI i1) I J Q := by
  unfold f_Model_goAll
  refine m_len hw ?_
  have h30 := hw.1
  refine lp3 (fun n (u1_ : Nat) (u2_ : Option (Nat × Nat)) (u3_ : MI) => f_Model_goAll_L13 (nI m) (lN (num w)) (nI i1) (nI w.length) _ n (if u2_.isSome then 1 else 0) (nI u1_) u3_ J) (fun u1_ u2_ u3_ => u1_ ≤ i1 ∧ Sc I u3_ ∧ okSp A u2_ ∧ (∀ q, u2_ = some q → atC u3_ q) ∧ run A sc ((w.take i1).drop i0) = u2_.bind (fun q => run A q ((w.take i1).drop u1_))) (fun u1_ u2_ u3_ => i1 - u1_) ?_ i0 (some sc) I ⟨h01, Sc.rf, (fun q hq => by cases hq; exact ⟨hs, hc⟩), (fun q hq => by cases hq; exact hat), rfl⟩
  rintro n i y I1 ⟨b1, b2, b3, b4, b5⟩ ih
  unfold f_Model_goAll_L13
  by_cases hi : i = i1
  · subst hi
    rw [if_pos (show nI i ≤ nI i by rw [leNN (by omega) (by omega)]; omega)]
    have hd : (w.take i).drop i = [] := by simp
    rw [hd] at b5
    cases y with
    | none => exact ⟨Or.inl rfl, q0 b5 I1 b2⟩
    | some y => exact ⟨Or.inr rfl, q1 y b5 I1 b2 (b4 y rfl)⟩
  · rw [if_neg (show ¬ nI i1 ≤ nI i by rw [leNN (by omega) (by omega)]; omega)]
    cases y with
    | none =>
      rw [if_pos (show (if (none : Option (Nat × Nat)).isSome = true then (1 : Int32) else 0) = 0 from rfl)]
      exact ⟨Or.inl rfl, q0 b5 I1 b2⟩
    | some y =>
      have hlt : i < (w.take i1).length := by simp; omega
      have hget : w[i]? = some (w[i]'(by omega)) := List.getElem?_eq_getElem (by omega)
      have hd : (w.take i1).drop i = w[i]'(by omega) :: (w.take i1).drop (i + 1) := by
        rw [List.drop_eq_getElem_cons hlt]
        simp
      rw [if_neg isS1, m_sign hw hget]
      obtain ⟨y1, y2⟩ := b3 y rfl
      rw [hd] at b5
      simp only [Option.bind_some] at b5
      rw [run_cons] at b5
      refine m_go hm (b2.rep hA) hv y1 y2 (hw.2 _ (List.getElem_mem _)) (b4 y rfl) (fun hn t et => ?_) (fun t ht I2 e2 e3 u eu => ?_)
      · rw [et, nI_1]
        rw [hn] at b5
        exact ih (i + 1) none I1 ⟨by omega, b2, (fun q hq => by cases hq), (fun q hq => by cases hq), b5⟩ (by omega)
      · rw [eu, nI_1]
        rw [ht] at b5
        have := dl_ok hv y2 ht
        exact ih (i + 1) (some t) I2 ⟨by omega, b2.tr e2, (fun q hq => by cases hq; exact ⟨this.1, this.2.1⟩), (fun q hq => by cases hq; exact e3), b5⟩ (by omega)
theorem m_begin {I : MI} {J : MJ} {Q : MI → MJ → Prop} (q : ∀ I', Sc I I' → atC I' (0, 0) → Q I' J) : f_Model_begin I J Q := by
  unfold f_Model_begin
  intro I1 e1 I2 e2
  refine q I2 ?_ ⟨by rw [e2, sI_s, pk_un (by decide), e1, sI_s, pk_us]; rfl, by rw [e2, sI_s, pk_us]; rfl⟩
  subst e2 e1
  exact (Sc.u14 _).tr (Sc.u15 _)
theorem m_ansBy {m : Nat} {w : List Nat} {A : AM} {I : MI} {J : MJ} {Q : Int32 → MI → MJ → Prop} (hm : m < 20) (hA : RepM I m A) (hv : VA A) (hw : wOk w) (q : ∀ I', Sc I I' → Q (nI (ansF A (0, 0) w)) I' J) : f_Model_answerBy (nI m) (lN (num w)) I J Q := by
  unfold f_Model_answerBy
  refine m_begin (fun I1 e1 a1 => m_len hw ?_)
  have hd : (w.take w.length).drop 0 = w := by simp
  unfold ansF at q
  refine m_goAll (i0 := 0) hm (e1.rep hA) hv hv.n1 (show (0, 0).2 < 4 by decide) hw (Nat.zero_le _) (Nat.le_refl _) a1 (fun hn I2 e2 => ?_) (fun t ht I2 e2 a2 => ?_)
  · rw [if_pos rfl]
    rw [hd] at hn
    rw [hn] at q
    exact q I2 (e1.tr e2)
  · rw [hd] at ht
    rw [ht] at q
    obtain ⟨t1, t2⟩ := run_ok hv w (0, 0) t hv.n1 (by decide) ht
    have h14 : t.1 < 14 := by have := hv.2.2.2.2.1; omega
    obtain ⟨z, hz⟩ := VA.get t1
    rw [if_neg (by decide), a2.1, l14, pk_mul, nI_add, vpN (by omega), nI_clamp (by omega), (((e1.tr e2).rep hA).2.2.2 _ z hz).1]
    refine ⟨by omega, ?_⟩
    have := q I2 (e1.tr e2)
    simp only [anS_of hz] at this
    exact this
