/-! runs -/
def enP : Option (Nat × Nat) → Int32
  | none => -1
  | some q => nI (q.1 * 4 + q.2)
theorem enO_nn {t : Nat} (h : t < 2 ^ 31) : ¬ enO (some t) = -1 := lm1 h
theorem s_cnt {h c : Nat} {I : MI} {J : MJ} {Q : Int32 → MI → MJ → Prop} (hh : h ≤ 3) (hc : c < 4) : f_Machine_countAfter (nI h) (nI c) I J Q ↔ Q (enO (cnt h c)) I J := by
  unfold f_Machine_countAfter
  have h4 : h = 0 ∨ h = 1 ∨ h = 2 ∨ h = 3 := by omega
  have c4 : c = 0 ∨ c = 1 ∨ c = 2 ∨ c = 3 := by omega
  rcases h4 with rfl | rfl | rfl | rfl <;> rcases c4 with rfl | rfl | rfl | rfl <;> exact Iff.rfl
theorem cnt_lt {h c d : Nat} (hc : c < 4) (e : cnt h c = some d) : d < 4 := by
  unfold cnt at e
  split at e
  · split at e <;> simp at e; omega
  · split at e
    · split at e <;> simp at e; omega
    · split at e
      · split at e <;> simp at e; omega
      · simp at e; omega
theorem tkO_of {A : AM} {s a : Nat} {z : Option ROW × Nat} {r : ROW} (hz : A.2.2[s]? = some z) (hr : z.1 = some r) : tkO A s a = r[a]? := by simp [tkO, hz, hr]
theorem tkO_no {A : AM} {s a : Nat} {z : Option ROW × Nat} (hz : A.2.2[s]? = some z) (hr : z.1 = none) : tkO A s a = none := by simp [tkO, hz, hr]
theorem tX_tk {A : AM} {s a : Nat} (ha : a < 4) : tX A s (nI a) = tkO A s a := by
  unfold tX idx
  rw [if_neg, nI_clamp (by omega)]
  · rfl
  · rintro (h | h)
    · exact nI_pos (by omega) h
    · exact nI_ge ha (by decide) h
theorem tkO_inv {A : AM} {s a : Nat} {x : Option Nat × Nat} (h : tkO A s a = some x) : ∃ z r, A.2.2[s]? = some z ∧ z.1 = some r ∧ r[a]? = some x := by
  unfold tkO at h
  cases hq : A.2.2[s]? with
  | none => rw [hq] at h; cases h
  | some q =>
    rw [hq] at h
    cases hr : q.1 with
    | none => simp [hr] at h
    | some r => simp [hr] at h; exact ⟨q, r, rfl, hr, h⟩
theorem tkO_v {A : AM} (hv : VA A) {s a : Nat} {x : Option Nat × Nat} (h : tkO A s a = some x) : (∀ t, x.1 = some t → t < aN A) ∧ x.2 ≤ 3 ∧ (A.1 ≠ 3 → x.2 = 0) ∧ a < A.2.1 ∧ s < aN A := by
  obtain ⟨z, r, h1, h2, h3⟩ := tkO_inv h
  obtain ⟨k1, k2⟩ := (hv.2.2.2.2.2 z (List.mem_of_getElem? h1)).2.2 r h2
  obtain ⟨k3, k4, k5⟩ := k2 x (List.mem_of_getElem? h3)
  have := (List.getElem?_eq_some_iff.mp h3).1
  exact ⟨k3, k4, k5, by omega, (List.getElem?_eq_some_iff.mp h1).1⟩
theorem dl_ok {A : AM} (hv : VA A) {sc q : Nat × Nat} {a : Nat} (hc : sc.2 < 4) (h : dl A sc a = some q) : q.1 < aN A ∧ q.2 < 4 ∧ a < A.2.1 := by
  unfold dl at h
  cases hx : tkO A sc.1 a with
  | none => rw [hx] at h; cases h
  | some x =>
    obtain ⟨k1, k2, k3, k4, k5⟩ := tkO_v hv hx
    rw [hx] at h
    cases hy : x.1 with
    | none => simp [hy] at h
    | some t =>
      simp [hy] at h
      obtain ⟨d, hd, e⟩ := h
      subst e
      exact ⟨k1 t hy, cnt_lt hc hd, k4⟩
theorem dl_k {A : AM} (hv : VA A) {sc : Nat × Nat} {a : Nat} (ha : A.2.1 ≤ a) : dl A sc a = none := by
  cases h : dl A sc a with
  | none => rfl
  | some q =>
    unfold dl at h
    cases hx : tkO A sc.1 a with
    | none => rw [hx] at h; cases h
    | some x => have := (tkO_v hv hx).2.2.2.1; omega
theorem run_nil (A : AM) (sc : Nat × Nat) : run A sc [] = some sc := rfl
theorem run_cons (A : AM) (sc : Nat × Nat) (a : Nat) (w : List Nat) : run A sc (a :: w) = (dl A sc a).bind (fun q => run A q w) := by
  simp [run, List.foldlM_cons]
theorem run_app (A : AM) (sc : Nat × Nat) (u w : List Nat) : run A sc (u ++ w) = (run A sc u).bind (fun q => run A q w) := by
  simp [run, List.foldlM_append]
theorem run_ok {A : AM} (hv : VA A) : ∀ (w : List Nat) (sc q : Nat × Nat), sc.1 < aN A → sc.2 < 4 → run A sc w = some q → q.1 < aN A ∧ q.2 < 4
  | [], sc, q, h1, h2, h => by rw [run_nil] at h; cases h; exact ⟨h1, h2⟩
  | a :: w, sc, q, h1, h2, h => by
    rw [run_cons] at h
    cases hd : dl A sc a with
    | none => rw [hd] at h; cases h
    | some q' =>
      rw [hd] at h
      obtain ⟨k1, k2, _⟩ := dl_ok hv h2 hd
      exact run_ok hv w q' q k1 k2 h
theorem dm4 {s c : Nat} (hc : c < 4) : (s * 4 + c) / 4 = s ∧ (s * 4 + c) % 4 = c := by omega
theorem s_next {o s c a : Nat} {A : AM} {I : MI} {J : MJ} {Q : Int32 → MI → MJ → Prop} (hA : RepC I o A) (hv : VA A) (hs : s < aN A) (hc : c < 4) (ha : a < 4) : f_Machine_nextKey o (nI (s * 4 + c)) (nI a) I J Q ↔ Q (enP (dl A (s, c) a)) I J := by
  have h14 : s < 14 := by have := hv.2.2.2.2.1; omega
  obtain ⟨z, hz⟩ := VA.get hs
  obtain ⟨g1, g2, g3⟩ := hA.2.2.2 s z hz
  unfold f_Machine_nextKey f_Machine_nextKey_b74
  have ed : nI (s * 4 + c) / 4 = nI s := by rw [l4, pk_div (by omega) (by decide) (by decide), (dm4 hc).1]
  have er : nI (s * 4 + c) - nI (s * 4 + c) / 4 * 4 = nI c := by rw [l4, pk_rem (by omega) (by decide) (by decide), (dm4 hc).2]
  rw [er, ed, forall_eq, if_neg (nI0_lt (by omega)), hA.2.1, if_neg (nI_ge hs hv.n31), if_neg (nI0_lt (by omega)), vpN (by omega), nI_clamp (by omega)]
  unfold dl
  cases hr : z.1 with
  | none =>
    rw [tkO_no hz hr, g2 hr, if_neg (nlt_m1 (by omega))]
    exact ⟨fun h => h.2, fun h => ⟨h14, h⟩⟩
  | some r =>
    have hl := (hv.row4 hz).2 r hr
    rw [tkO_of hz hr, (g3 r hr).1]
    by_cases har : a < r.length
    · rw [if_pos (show nI a < nI r.length by rw [ltNN (by omega) (by omega)]; exact har), l4, pk_mul, nI_add, vpN (by omega), nI_clamp (by omega), List.getElem?_eq_getElem har]
      have hg := List.getElem?_eq_getElem har
      have hx := (g3 r hr).2 a _ hg
      obtain ⟨k1, k2, k3, k4, k5⟩ := tkO_v hv (show tkO A s a = some r[a] by rw [tkO_of hz hr, hg])
      rw [hx.1, hx.2, forall_eq, s_cnt k2 hc]
      have h56 : s * 4 + a < 56 := by omega
      simp only [Option.bind_some]
      cases hy : r[a].1 with
      | none =>
        simp only [enO, if_true, Option.bind_none]
        exact ⟨fun h => h.2.2.2, fun h => ⟨h14, h56, h56, h⟩⟩
      | some t =>
        have ht := k1 t hy
        have := hv.n31
        rw [if_neg (enO_nn (by omega))]
        simp only [Option.bind_some]
        cases hd : cnt r[a].2 c with
        | none =>
          simp only [enO, if_true, Option.map_none]
          exact ⟨fun h => h.2.2.2, fun h => ⟨h14, h56, h56, h⟩⟩
        | some d =>
          have := cnt_lt hc hd
          rw [if_neg (enO_nn (by omega))]
          simp only [enO, Option.map_some, enP, pk_mul, nI_add]
          exact ⟨fun h => h.2.2.2, fun h => ⟨h14, h56, h56, h⟩⟩
    · rw [if_neg (show ¬ nI a < nI r.length by rw [ltNN (by omega) (by omega)]; exact har), List.getElem?_eq_none (by omega)]
      exact ⟨fun h => h.2, fun h => ⟨h14, h⟩⟩
theorem s_nextB {o : Nat} {x : Int32} {I : MI} {J : MJ} {Q : Int32 → MI → MJ → Prop} : f_Machine_nextKey o (-1) x I J Q ↔ Q (-1) I J := by
  unfold f_Machine_nextKey
  rw [forall_eq, if_pos (by decide)]
/-- a spot that a machine may be at -/
def okSp (A : AM) (x : Option (Nat × Nat)) : Prop := ∀ q, x = some q → q.1 < aN A ∧ q.2 < 4
theorem okSp_dl {A : AM} (hv : VA A) {x : Option (Nat × Nat)} (hx : okSp A x) (a : Nat) : okSp A (x.bind (fun q => dl A q a)) := by
  intro q hq
  cases x with
  | none => cases hq
  | some y => exact ⟨(dl_ok hv (hx y rfl).2 hq).1, (dl_ok hv (hx y rfl).2 hq).2.1⟩
theorem okSp_run {A : AM} (hv : VA A) {x : Option (Nat × Nat)} (hx : okSp A x) (w : List Nat) : okSp A (x.bind (fun q => run A q w)) := by
  intro q hq
  cases x with
  | none => cases hq
  | some y => exact run_ok hv w y q (hx y rfl).1 (hx y rfl).2 hq
theorem s_nextO {o a : Nat} {A : AM} {x : Option (Nat × Nat)} {I : MI} {J : MJ} {Q : Int32 → MI → MJ → Prop} (hA : RepC I o A) (hv : VA A) (hx : okSp A x) (ha : a < 4) : f_Machine_nextKey o (enP x) (nI a) I J Q ↔ Q (enP (x.bind (fun q => dl A q a))) I J := by
  cases x with
  | none => exact s_nextB
  | some q => exact s_next hA hv (hx q rfl).1 (hx q rfl).2 ha
theorem enP_m1 {A : AM} (hv : VA A) {x : Option (Nat × Nat)} (hx : okSp A x) : enP x = -1 ↔ x = none := by
  cases x with
  | none => simp [enP]
  | some q =>
    have := hx q rfl
    have := hv.2.2.2.2.1
    simp only [enP, reduceCtorEq, iff_false]
    exact lm1 (by omega)
theorem m1_add (m : Nat) : nI m + (-1) = nI m - 1 := by rw [Int32.sub_eq_add_neg]
theorem s_runO {o : Nat} {A : AM} {x : Option (Nat × Nat)} {w : List Nat} {I : MI} {J : MJ} {Q : Int32 → MI → MJ → Prop} (hA : RepC I o A) (hv : VA A) (hx : okSp A x) (hw : wOk w) (q : Q (enP (x.bind (fun y => run A y w))) I J) : f_Machine_runFrom o (enP x) (lN (num w)) I J Q := by
  unfold f_Machine_runFrom
  refine s_len hw (fun t et => ?_)
  subst et
  have h30 := hw.1
  refine lp2 (fun n (u1_ : Nat) (u2_ : Option (Nat × Nat)) => f_Machine_runFrom_L11 o (lN (num w)) _ n (enP u2_) (nI (w.length - u1_) - 1) I J) (fun u1_ u2_ => u1_ ≤ w.length ∧ okSp A u2_ ∧ x.bind (fun y => run A y w) = u2_.bind (fun y => run A y (w.drop u1_))) (fun u1_ u2_ => w.length - u1_) ?_ 0 x ⟨by simp, hx, by simp⟩
  rintro n i y ⟨b1, b2, b3⟩ ih
  unfold f_Machine_runFrom_L11
  by_cases hi : i = w.length
  · rw [hi, Nat.sub_self, if_pos (by decide)]
    rw [b3, hi, List.drop_length] at q
    cases y with
    | none => exact q
    | some y => exact q
  · rw [show w.length - i = (w.length - 1 - i) + 1 by omega, nI_pred, if_neg (nI0_lt (by omega))]
    cases y with
    | none =>
      rw [if_pos (show enP none = -1 from rfl)]
      rw [b3] at q
      exact q
    | some y =>
      rw [if_neg (fun hh => by rw [enP_m1 hv b2] at hh; cases hh), s_sign hw (b := w.length - 1 - i) (a := w[i]) (by omega) (by rw [show w.length - 1 - (w.length - 1 - i) = i by omega]; exact List.getElem?_eq_getElem (by omega)), s_nextO hA hv b2 (hw.2 _ (List.getElem_mem _)), m1_add]
      intro t et
      subst et
      have hd : w.drop i = w[i] :: w.drop (i + 1) := List.drop_eq_getElem_cons (by omega)
      have := ih (i + 1) ((some y).bind (fun q => dl A q w[i])) ⟨by omega, okSp_dl hv b2 _, by rw [b3, hd]; simp only [Option.bind_some]; rw [run_cons]⟩ (by omega)
      rw [show w.length - (i + 1) = w.length - 1 - i by omega] at this
      exact this
def anO (A : AM) : Option (Nat × Nat) → Nat
  | none => 8
  | some q => anS A q.1
theorem ansF_o (A : AM) (sc : Nat × Nat) (w : List Nat) : ansF A sc w = anO A (run A sc w) := by
  unfold ansF
  cases run A sc w <;> rfl
theorem s_ansAt {o : Nat} {A : AM} {x : Option (Nat × Nat)} {I : MI} {J : MJ} {Q : Int32 → MI → MJ → Prop} (hA : RepC I o A) (hv : VA A) (hx : okSp A x) : f_Machine_answerAt o (enP x) I J Q ↔ Q (nI (anO A x)) I J := by
  unfold f_Machine_answerAt
  cases x with
  | none => rw [if_pos (by decide)]; rfl
  | some q =>
    obtain ⟨h1, h2⟩ := hx q rfl
    have h14 : q.1 < 14 := by have := hv.2.2.2.2.1; omega
    obtain ⟨z, hz⟩ := VA.get h1
    show _ ↔ Q (nI (anS A q.1)) I J
    rw [show enP (some q) = nI (q.1 * 4 + q.2) from rfl, if_neg (nI0_lt (by omega)), l4, pk_div (by omega) (by decide) (by decide), (dm4 h2).1, hA.2.1, if_neg (nI_ge h1 hv.n31), vpN (by omega), nI_clamp (by omega), (hA.2.2.2 _ z hz).1, anS_of hz]
    exact ⟨fun h => h.2, fun h => ⟨h14, h⟩⟩
theorem VA.n1 {A : AM} (h : VA A) : 0 < aN A := h.2.2.2.1
theorem okSp_0 {A : AM} (h : VA A) : okSp A (some (0, 0)) := fun q hq => by cases hq; exact ⟨h.n1, by decide⟩
theorem s_ansTo {o : Nat} {A : AM} {w : List Nat} {I : MI} {J : MJ} {Q : Int32 → MI → MJ → Prop} (hA : RepC I o A) (hv : VA A) (hw : wOk w) (q : Q (nI (ansF A (0, 0) w)) I J) : f_Machine_answerTo o (lN (num w)) I J Q := by
  unfold f_Machine_answerTo
  refine s_runO (x := some (0, 0)) hA hv (okSp_0 hv) hw ?_
  rw [s_ansAt hA hv (okSp_run hv (okSp_0 hv) w)]
  rw [ansF_o] at q
  exact q
