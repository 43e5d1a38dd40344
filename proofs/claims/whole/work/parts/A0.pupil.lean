/-! the pupil: what the secret answers -/
theorem okS_run {A : AM} (hv : VA A) : ∀ (w : List Nat) (q t : Nat × Nat), okS A q → run A q w = some t → okS A t
  | [], q, t, hq, h => by rw [run_nil] at h; cases h; exact hq
  | a :: w, q, t, hq, h => by
    rw [run_cons] at h
    cases hd : dl A q a with
    | none => rw [hd] at h; cases h
    | some q' =>
      rw [hd] at h
      exact okS_run hv w q' t (okS_dl hv hq hd) h
theorem VL.n3 {S : AM} (h : VL S) : S.1 ≠ 3 := by have := h.2.1; omega
theorem end_run {S : AM} (hS : VL S) {w : List Nat} (h : (run S (0, 0) w).isSome) : run S (0, 0) w = some (endS S w, 0) ∧ endS S w < aN S := by
  obtain ⟨q, hq⟩ := Option.isSome_iff_exists.mp h
  have hk := okS_run hS.1 w (0, 0) q (okS_0 hS.1) hq
  have e : endS S w = q.1 := by unfold endS; rw [hq]
  rw [e, hq]
  refine ⟨?_, hk.1⟩
  congr 1
  exact Prod.ext rfl (hk.2.2 hS.n3)
theorem dl_ld {A : AM} (hv : VA A) (h3 : A.1 ≠ 3) (s c a : Nat) : dl A (s, c) a = (ld A s a).map (fun t => (t, c)) := by
  unfold ld
  cases hx : tkO A s a with
  | none => rw [dl_no hx]; rfl
  | some x =>
    rw [dl_0 hx ((tkO_v hv hx).2.2.1 h3)]
    rfl
theorem run_snoc {S : AM} (hS : VL S) {w : List Nat} (h : (run S (0, 0) w).isSome) (a : Nat) : run S (0, 0) (w ++ [a]) = (ld S (endS S w) a).map (fun t => (t, 0)) := by
  rw [run_app, (end_run hS h).1]
  show run S (endS S w, 0) [a] = _
  rw [run_cons, dl_ld hS.1 hS.n3]
  cases ld S (endS S w) a <;> rfl
theorem ans_app {S : AM} {u : List Nat} {q : Nat × Nat} (h : run S (0, 0) u = some q) (v : List Nat) : ansF S (0, 0) (u ++ v) = ansF S q v := by
  rw [ansF_o, ansF_o, run_app, h]
  rfl
theorem ans_none {S : AM} {u : List Nat} (h : run S (0, 0) u = none) (v : List Nat) : ansF S (0, 0) (u ++ v) = 8 := by
  rw [ansF_o, run_app, h]
  rfl
theorem ans_is {S : AM} (hv : VA S) (w : List Nat) : ansF S (0, 0) w = 8 ↔ run S (0, 0) w = none := by
  unfold ansF
  cases h : run S (0, 0) w with
  | none => simp
  | some q =>
    have := anS_8 hv (run_ok hv w (0, 0) q hv.n1 (by decide) h).1
    simp
    omega
def opAhead (x : Int32) (σ : SG) : Int64 := match σ.2.2.2.1 with
  | none => -1
  | some P => match idx P.2.2.1.length x with
    | none => -1
    | some i => lN (num (P.2.2.1.getD i []))
def opBehind (x : Int32) (σ : SG) : Int64 := match σ.2.2.2.1 with
  | none => -1
  | some P => match idx P.2.2.2.1.length x with
    | none => -1
    | some i => lN (num (P.2.2.2.1.getD i []))
def opTold (σ : SG) : Int64 := match σ.2.2.2.1 with
  | none => 0
  | some P => P.2.2.2.2
def opGuesses (σ : SG) : Int32 := match σ.2.2.2.1 with
  | none => 0
  | some P => nI P.2.2.2.1.length
theorem nlt0_le {x : Int32} (h : ¬ x < 0) : (0 : Int32) ≤ x := not_lt_le h
theorem S_ahead {x : Int32} {I : MI} {J : MJ} {σ : SG} {Q : Int64 → MI → MJ → Prop} (h : AbsS I J σ) (q : Q (opAhead x σ) I J) : f_School_ahead x I J Q := by
  unfold f_School_ahead
  unfold opAhead at q
  have hp := h.2.2.1
  cases hP : σ.2.2.2.1 with
  | none =>
    rw [hP] at hp q
    obtain ⟨-, p2, -⟩ := hp
    rw [p2]
    by_cases h0 : x < 0
    · rw [if_pos h0]; exact q
    · rw [if_neg h0, if_pos (nlt0_le h0)]; exact q
  | some P =>
    rw [hP] at hp q
    obtain ⟨p1, p2, p3, p4, p5, p6, p7, p8, p9, p10, p11⟩ := hp
    have h14 := p11.2.2.2.2.1
    rw [p3]
    simp only at q
    rcases idx_cases (N := P.2.2.1.length) (by omega) x with ⟨i, hi, rfl, ei⟩ | ⟨hb, ei⟩
    · rw [ei] at q
      have hw := List.getElem?_eq_getElem hi
      rw [if_neg (nI0_lt (by omega)), if_neg (by rw [leNN (by omega) (by omega)]; omega), vpN (by omega), nI_clamp (by omega), (p9 i _ hw).1]
      refine ⟨by omega, ?_⟩
      simp only [List.getD, hw, Option.getD_some] at q
      exact q
    · rw [ei] at q
      by_cases h0 : x < 0
      · rw [if_pos h0]; exact q
      · rw [if_neg h0, if_pos (hb.elim (fun z => absurd z h0) (fun z => z))]; exact q
theorem S_behind {x : Int32} {I : MI} {J : MJ} {σ : SG} {Q : Int64 → MI → MJ → Prop} (h : AbsS I J σ) (q : Q (opBehind x σ) I J) : f_School_behind x I J Q := by
  unfold f_School_behind
  unfold opBehind at q
  have hp := h.2.2.1
  cases hP : σ.2.2.2.1 with
  | none =>
    rw [hP] at hp q
    obtain ⟨-, -, p2, -⟩ := hp
    rw [p2]
    by_cases h0 : x < 0
    · rw [if_pos h0]; exact q
    · rw [if_neg h0, if_pos (nlt0_le h0)]; exact q
  | some P =>
    rw [hP] at hp q
    obtain ⟨p1, p2, p3, p4, p5, p6, p7, p8, p9, p10, p11⟩ := hp
    have h14 := p11.2.2.2.2.1
    have h15 := p11.2.2.2.2.2.1
    rw [p4]
    simp only at q
    rcases idx_cases (N := P.2.2.2.1.length) (by omega) x with ⟨i, hi, rfl, ei⟩ | ⟨hb, ei⟩
    · rw [ei] at q
      have hw := List.getElem?_eq_getElem hi
      rw [if_neg (nI0_lt (by omega)), if_neg (by rw [leNN (by omega) (by omega)]; omega), vpN (by omega), nI_clamp (by omega), (p10 i _ hw).1]
      refine ⟨by omega, ?_⟩
      simp only [List.getD, hw, Option.getD_some] at q
      exact q
    · rw [ei] at q
      by_cases h0 : x < 0
      · rw [if_pos h0]; exact q
      · rw [if_neg h0, if_pos (hb.elim (fun z => absurd z h0) (fun z => z))]; exact q
theorem S_told {I : MI} {J : MJ} {σ : SG} {Q : Int64 → MI → MJ → Prop} (h : AbsS I J σ) (q : Q (opTold σ) I J) : f_School_told I J Q := by
  unfold f_School_told
  unfold opTold at q
  have hp := h.2.2.1
  cases hP : σ.2.2.2.1 with
  | none => rw [hP] at hp q; rw [hp.2.2.2.2]; exact q
  | some P => rw [hP] at hp q; rw [hp.2.2.2.2.2.1]; exact q
theorem S_guesses {I : MI} {J : MJ} {σ : SG} {Q : Int32 → MI → MJ → Prop} (h : AbsS I J σ) (q : Q (opGuesses σ) I J) : f_School_guesses I J Q := by
  unfold f_School_guesses
  unfold opGuesses at q
  have hp := h.2.2.1
  cases hP : σ.2.2.2.1 with
  | none => rw [hP] at hp q; rw [hp.2.2.2.1]; exact q
  | some P => rw [hP] at hp q; rw [hp.2.2.2.2.1]; exact q
theorem M_ahead {x : Int32} {I : MI} {J : MJ} {σ : SG} {Q : Int64 → MI → MJ → Prop} (h : AbsM I J σ) (q : Q (opAhead x σ) I J) : f_Model_ahead x I J Q := by
  unfold f_Model_ahead
  unfold opAhead at q
  have hp := h.2.2.1
  cases hP : σ.2.2.2.1 with
  | none =>
    rw [hP] at hp q
    rw [if_pos (show I 177 49 = 0 from hp)]
    exact q
  | some P =>
    rw [hP] at hp q
    obtain ⟨p1, p2, p3, p4, p5, p6, p7, p8, p9, p10, p11⟩ := hp
    have h14 := p11.2.2.2.2.1
    rw [p1, if_neg (by decide), p3]
    simp only at q
    rcases idx_cases (N := P.2.2.1.length) (by omega) x with ⟨i, hi, rfl, ei⟩ | ⟨hb, ei⟩
    · rw [ei] at q
      have hw := List.getElem?_eq_getElem hi
      rw [if_neg (nI0_lt (by omega)), if_neg (by rw [leNN (by omega) (by omega)]; omega), vpN (by omega), nI_clamp (by omega), p9 i _ hw]
      refine ⟨by omega, ?_⟩
      simp only [List.getD, hw, Option.getD_some] at q
      exact q
    · rw [ei] at q
      by_cases h0 : x < 0
      · rw [if_pos h0]; exact q
      · rw [if_neg h0, if_pos (hb.elim (fun z => absurd z h0) (fun z => z))]; exact q
theorem M_behind {x : Int32} {I : MI} {J : MJ} {σ : SG} {Q : Int64 → MI → MJ → Prop} (h : AbsM I J σ) (q : Q (opBehind x σ) I J) : f_Model_behind x I J Q := by
  unfold f_Model_behind
  unfold opBehind at q
  have hp := h.2.2.1
  cases hP : σ.2.2.2.1 with
  | none =>
    rw [hP] at hp q
    rw [if_pos (show I 177 49 = 0 from hp)]
    exact q
  | some P =>
    rw [hP] at hp q
    obtain ⟨p1, p2, p3, p4, p5, p6, p7, p8, p9, p10, p11⟩ := hp
    have h14 := p11.2.2.2.2.1
    have h15 := p11.2.2.2.2.2.1
    rw [p1, if_neg (by decide), p4]
    simp only at q
    rcases idx_cases (N := P.2.2.2.1.length) (by omega) x with ⟨i, hi, rfl, ei⟩ | ⟨hb, ei⟩
    · rw [ei] at q
      have hw := List.getElem?_eq_getElem hi
      rw [if_neg (nI0_lt (by omega)), if_neg (by rw [leNN (by omega) (by omega)]; omega), vpN (by omega), nI_clamp (by omega), p10 i _ hw]
      refine ⟨by omega, ?_⟩
      simp only [List.getD, hw, Option.getD_some] at q
      exact q
    · rw [ei] at q
      by_cases h0 : x < 0
      · rw [if_pos h0]; exact q
      · rw [if_neg h0, if_pos (hb.elim (fun z => absurd z h0) (fun z => z))]; exact q
theorem M_told {I : MI} {J : MJ} {σ : SG} {Q : Int64 → MI → MJ → Prop} (h : AbsM I J σ) (q : Q (opTold σ) I J) : f_Model_told I J Q := by
  unfold f_Model_told
  unfold opTold at q
  have hp := h.2.2.1
  cases hP : σ.2.2.2.1 with
  | none => rw [hP] at hp q; rw [if_pos (show I 177 49 = 0 from hp)]; exact q
  | some P => rw [hP] at hp q; rw [hp.1, if_neg (by decide), hp.2.2.2.2.2.1]; exact q
theorem M_guesses {I : MI} {J : MJ} {σ : SG} {Q : Int32 → MI → MJ → Prop} (h : AbsM I J σ) (q : Q (opGuesses σ) I J) : f_Model_guesses I J Q := by
  unfold f_Model_guesses
  unfold opGuesses at q
  have hp := h.2.2.1
  cases hP : σ.2.2.2.1 with
  | none => rw [hP] at hp q; rw [if_pos (show I 177 49 = 0 from hp)]; exact q
  | some P => rw [hP] at hp q; rw [hp.1, if_neg (by decide), hp.2.2.2.2.1]; exact q
/-! guess -/
theorem VP.g {P : PU} (h : VP P) : VL (mkG P.1 P.2.2.1 P.2.2.2.1) ∧ aN (mkG P.1 P.2.2.1 P.2.2.2.1) = P.2.2.1.length := by
  obtain ⟨v1, v2, v3, v4, v5, v6, v7, v8, v9, v10⟩ := h
  exact ⟨mkG_VL v1 (by have := (List.getElem?_eq_some_iff.mp v3).1; omega) v5 (fun w hw => (v7 w hw).2), gSt_len _ _ _⟩
def opGuess (x : Int32) (σ : SG) : Int32 × SG := match σ.2.2.2.1 with
  | none => ref 1 σ
  | some P => match plc x with
    | none => ref 2 σ
    | some t => don (nI (aN (mkG P.1 P.2.2.1 P.2.2.2.1))) (setF (setD σ t (some (.inl (mkG P.1 P.2.2.1 P.2.2.2.1)))) t (σ.2.1 t))
theorem S_guess {x : Int32} {I : MI} {J : MJ} {σ : SG} {Q : Int32 → MI → MJ → Prop} (h : AbsS I J σ) (q : KS I J (opGuess x σ) Q) : f_School_guess x I J Q := by
  unfold f_School_guess f_School_guess_b18
  unfold opGuess at q
  have hp := h.2.2.1
  cases hP : σ.2.2.2.1 with
  | none =>
    rw [hP] at hp q
    rw [if_pos hp.1, if_neg (by decide)]
    exact KS.ref q h
  | some P =>
    rw [hP] at hp q
    simp only at q
    rw [if_neg (by rw [hp.1]; decide)]
    rcases plc_cases x with ⟨t, ht, rfl, et⟩ | ⟨hb, et⟩
    · rw [et] at q
      rw [s_placeFaultN ht, if_pos rfl]
      obtain ⟨p1, p2, p3, p4, p5, p6, p7, p8, p9, p10, p11⟩ := hp
      exact s_lay (by decide) ht p8 p11.g.1.1 h FrS.rf q
    · rw [et] at q
      rw [s_placeFaultB hb, if_neg (by decide)]
      exact KS.ref q h
theorem M_guess {x : Int32} {I : MI} {J : MJ} {σ : SG} {Q : Int32 → MI → MJ → Prop} (h : AbsM I J σ) (q : KM I J (opGuess x σ) Q) : f_Model_guess x I J Q := by
  unfold f_Model_guess
  unfold opGuess at q
  have hp := h.2.2.1
  cases hP : σ.2.2.2.1 with
  | none =>
    rw [hP] at hp q
    rw [if_pos (show I 177 49 = 0 from hp)]
    exact KM.ref q h
  | some P =>
    rw [hP] at hp q
    simp only at q
    rw [if_neg (by rw [hp.1]; decide)]
    rcases plc_cases x with ⟨t, ht, rfl, et⟩ | ⟨hb, et⟩
    · rw [et] at q
      rw [m_isPlaceN ht, if_neg (by decide)]
      obtain ⟨p1, p2, p3, p4, p5, p6, p7, p8, p9, p10, p11⟩ := hp
      exact m_put (x := 17) (by decide) (by decide) ht p8 p11.g.1.1 h FrM.rf q
    · rw [et] at q
      rw [m_isPlaceB hb, if_pos rfl]
      exact KM.ref q h
