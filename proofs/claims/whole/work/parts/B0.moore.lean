/-! how long a word must be that tells two states apart -/
def eqT (to : Nat → Nat → Option Nat) (an : Nat → Nat) (K t i j : Nat) : Prop := ∀ w : List Nat, w.length ≤ t → (∀ a ∈ w, a < K) → ansN to an i w = ansN to an j w
theorem eqT_e (to : Nat → Nat → Option Nat) (an : Nat → Nat) (K t : Nat) : Eqv (eqT to an K t) := ⟨fun _ _ _ _ => rfl, fun _ _ h w hl hw => (h w hl hw).symm, fun _ _ _ h h' w hl hw => (h w hl hw).trans (h' w hl hw)⟩
theorem eqT_al {to : Nat → Nat → Option Nat} {an : Nat → Nat} {K n t : Nat} (h7 : ∀ i, i < n → an i ≤ 7) (hc : ∀ i a j, i < n → a < K → to i a = some j → j < n) {i j : Nat} (hi : i < n) (hj : j < n) (h : eqT to an K (t + 1) i j) : alN to an K (eqT to an K t) i j := by
  refine ⟨h [] (by simp) (by simp), fun a ha => ?_⟩
  have h1 := h [a] (by simp) (by simpa using ha)
  rw [ansN_c, ansN_c] at h1
  cases hx : to i a with
  | none => cases hy : to j a with
    | none => trivial
    | some y =>
      rw [hx, hy] at h1
      have := h7 y (hc j a y hj ha hy)
      simp only [ansN] at h1
      omega
  | some x => cases hy : to j a with
    | none =>
      rw [hx, hy] at h1
      have := h7 x (hc i a x hi ha hx)
      simp only [ansN] at h1
      omega
    | some y =>
      intro w hl hw
      have := h (a :: w) (by simp; omega) (fun b hb => by
        rcases List.mem_cons.mp hb with h | h
        · rw [h]; exact ha
        · exact hw b h)
      rw [ansN_c, ansN_c, hx, hy] at this
      exact this
theorem moore {to : Nat → Nat → Option Nat} {an : Nat → Nat} {K n : Nat} (h7 : ∀ i, i < n → an i ≤ 7) (hc : ∀ i a j, i < n → a < K → to i a = some j → j < n) {i j : Nat} (hi : i < n) (hj : j < n) (h : ¬ eqN to an K i j) : ∃ w : List Nat, w.length < n ∧ (∀ a ∈ w, a < K) ∧ ansN to an i w ≠ ansN to an j w := by
  have hmono : ∀ t, ∀ x y, x < n → y < n → eqT to an K (t + 1) x y → eqT to an K t x y := fun t x y _ _ hh w hl hw => hh w (by omega) hw
  have hex : ∃ t, t < n ∧ cr (eqT to an K (t + 1)) n = cr (eqT to an K t) n := by
    by_cases hx : ∃ t, t < n ∧ cr (eqT to an K (t + 1)) n = cr (eqT to an K t) n
    · exact hx
    · exfalso
      have hgrow : ∀ t, t ≤ n → t + 1 ≤ cr (eqT to an K t) n := by
        intro t
        induction t with
        | zero => intro _; exact cr_1 (by omega)
        | succ t ih =>
          intro ht
          have h1 := ih (by omega)
          have h2 := cr_fine (hmono t)
          have h3 : cr (eqT to an K (t + 1)) n ≠ cr (eqT to an K t) n := fun e => hx ⟨t, by omega, e⟩
          omega
      have h1 := hgrow n (Nat.le_refl _)
      have h2 := cr_le (eqT to an K n) n
      omega
  obtain ⟨t, ht, he⟩ := hex
  have hback := fine_same (eqT_e to an K t) (eqT_e to an K (t + 1)) (hmono t) he
  have hst : ∀ x y, x < n → y < n → eqT to an K t x y → alN to an K (eqT to an K t) x y := fun x y hx hy hh => eqT_al h7 hc hx hy (hback x y hx hy hh)
  have hnt : ¬ eqT to an K t i j := fun hh => h (fun w hw => al_eqN hc hst w i j hi hj hh hw)
  by_cases hx : ∃ w : List Nat, w.length ≤ t ∧ (∀ a ∈ w, a < K) ∧ ansN to an i w ≠ ansN to an j w
  · obtain ⟨w, w1, w2, w3⟩ := hx
    exact ⟨w, by omega, w2, w3⟩
  · exact absurd (fun w hl hw => by
      by_cases e : ansN to an i w = ansN to an j w
      · exact e
      · exact absurd ⟨w, hl, hw, e⟩ hx) hnt
/-! one machine's states as nodes -/
theorem ansN_ld {A : AM} (hv : VA A) (h3 : A.1 ≠ 3) : ∀ (w : List Nat) (i : Nat), ansN (ld A) (anS A) i w = ansF A (i, 0) w
  | [], i => rfl
  | a :: w, i => by
    rw [ansN_c, ansF_cons, dl_ld hv h3]
    cases hl : ld A i a with
    | none => rfl
    | some t => exact ansN_ld hv h3 w t
/-! two machines' states as nodes -/
def toP (A B : AM) (i a : Nat) : Option Nat := if i < aN A then ld A i a else (ld B (i - aN A) a).map (fun t => t + aN A)
def anP (A B : AM) (i : Nat) : Nat := if i < aN A then anS A i else anS B (i - aN A)
theorem ansN_pA {A B : AM} (hv : VA A) (h3 : A.1 ≠ 3) : ∀ (w : List Nat) (i : Nat), i < aN A → ansN (toP A B) (anP A B) i w = ansF A (i, 0) w
  | [], i, hi => by show anP A B i = anS A i; unfold anP; rw [if_pos hi]
  | a :: w, i, hi => by
    rw [ansN_c, ansF_cons, dl_ld hv h3]
    unfold toP
    rw [if_pos hi]
    cases hl : ld A i a with
    | none => rfl
    | some t => exact ansN_pA hv h3 w t (ld_lt hv hl).1
theorem ansN_pB {A B : AM} (hw : VA B) (h3 : B.1 ≠ 3) : ∀ (w : List Nat) (i : Nat), ansN (toP A B) (anP A B) (i + aN A) w = ansF B (i, 0) w
  | [], i => by show anP A B (i + aN A) = anS B i; unfold anP; rw [if_neg (by omega), show i + aN A - aN A = i by omega]
  | a :: w, i => by
    rw [ansN_c, ansF_cons, dl_ld hw h3]
    unfold toP
    rw [if_neg (by omega), show i + aN A - aN A = i by omega]
    cases hl : ld B i a with
    | none => rfl
    | some t => exact ansN_pB hw h3 w t
theorem leastN_inv {P : Nat → Prop} {n : Nat} (h : leastN P = some n) : P n ∧ ∀ m, m < n → ¬ P m := by
  unfold leastN at h
  by_cases hex : ∃ n, P n
  · rw [dif_pos hex] at h
    have hs := Classical.choose_spec (pk_least P hex)
    cases h
    exact hs
  · rw [dif_neg hex] at h
    cases h
theorem leastN_inv0 {P : Nat → Prop} (h : leastN P = none) : ∀ n, ¬ P n := by
  intro n hn
  unfold leastN at h
  rw [dif_pos ⟨n, hn⟩] at h
  cases h
/-- a least word is no longer than any -/
theorem least_len {P : List Nat → Prop} {n : Nat} (h : leastN (WdP P) = some n) {u : List Nat} (hu : ∀ a ∈ u, a < 4) (hP : P u) : ∃ w : List Nat, (∀ a ∈ w, a < 4) ∧ n = num w ∧ P w ∧ w.length ≤ u.length := by
  obtain ⟨⟨w, w1, w2, w3⟩, hm⟩ := leastN_inv h
  refine ⟨w, w1, w2, w3, ?_⟩
  by_cases hl : w.length ≤ u.length
  · exact hl
  · exfalso
    have k1 := num_lo w1
    have k2 := num_hi hu
    have k3 : 4 ^ (u.length + 1) ≤ 4 ^ w.length := Nat.pow_le_pow_right (by decide) (by omega)
    rw [Nat.pow_succ] at k3
    exact hm (num u) (by omega) ⟨u, hu, rfl, hP⟩
theorem fu_len {A B : AM} (hv : VA A) (hw : VA B) (h3 : A.1 ≠ 3) (h3' : B.1 ≠ 3) {s t : Nat} (hs : s < aN A) (ht : t < aN B) {n : Nat} (h : leastN (WdP (fuP A B (some (s, 0)) (some (t, 0)))) = some n) : ∃ w, wOk w ∧ n = num w ∧ ansF A (s, 0) w ≠ ansF B (t, 0) w := by
  obtain ⟨⟨v, v1, v2, v3⟩, _⟩ := leastN_inv h
  have v3' : ansF A (s, 0) v ≠ ansF B (t, 0) v := by rw [ansF_o, ansF_o]; exact v3
  have a14 := hv.2.2.2.2.1
  have b14 := hw.2.2.2.2.1
  have hne : ¬ eqN (toP A B) (anP A B) 4 s (t + aN A) := fun hh => v3' (by
    have := hh v v1
    rw [ansN_pA hv h3 v s hs, ansN_pB hw h3' v t] at this
    exact this)
  obtain ⟨u, u1, u2, u3⟩ := moore (n := aN A + aN B) (fun i hi => by
    unfold anP
    split
    · exact anS_8 hv (by assumption)
    · exact anS_8 hw (by omega)) (fun i a j hi ha hj => by
    unfold toP at hj
    split at hj
    · have := (ld_lt hv hj).1; omega
    · cases hl : ld B (i - aN A) a with
      | none => rw [hl] at hj; cases hj
      | some y =>
        rw [hl] at hj
        have hj' : y + aN A = j := by simpa using hj
        have := (ld_lt hw hl).1
        omega) (show s < aN A + aN B by omega) (show t + aN A < aN A + aN B by omega) hne
  rw [ansN_pA hv h3 u s hs, ansN_pB hw h3' u t] at u3
  obtain ⟨w, w1, w2, w3, w4⟩ := least_len h u2 (show fuP A B (some (s, 0)) (some (t, 0)) u by rw [ansF_o, ansF_o] at u3; exact u3)
  exact ⟨w, ⟨by omega, w1⟩, w2, by rw [ansF_o, ansF_o]; exact w3⟩
/-! exam -/
noncomputable section
def fuW (A B : AM) (x y : Option (Nat × Nat)) : Option (List Nat) := (leastN (WdP (fuP A B x y))).bind (fun n => decW (lN n))
def opExam (σ : SG) : Int32 × SG := match σ.2.2.2.1 with
  | none => ref 1 σ
  | some P => match fuW P.1 (mkG P.1 P.2.2.1 P.2.2.2.1) (some (0, 0)) (some (0, 0)) with
    | none => don 0 σ
    | some w => if P.2.1 < w.length then don 0 σ else don (nI (lrn P w).2.2.1.length) (setP σ (some (lrn P w)))
end
theorem fu_cases {A B : AM} (hv : VA A) (hw : VA B) (h3 : A.1 ≠ 3) (h3' : B.1 ≠ 3) {s t : Nat} (hs : s < aN A) (ht : t < aN B) : (fuN A B (some (s, 0)) (some (t, 0)) = 0 ∧ fuW A B (some (s, 0)) (some (t, 0)) = none ∧ ∀ w : List Nat, (∀ a ∈ w, a < 4) → ansF A (s, 0) w = ansF B (t, 0) w) ∨ ∃ w, wOk w ∧ fuN A B (some (s, 0)) (some (t, 0)) = lN (num w) ∧ fuW A B (some (s, 0)) (some (t, 0)) = some w ∧ ansF A (s, 0) w ≠ ansF B (t, 0) w := by
  unfold fuN fuW
  cases h : leastN (WdP (fuP A B (some (s, 0)) (some (t, 0)))) with
  | none =>
    refine Or.inl ⟨rfl, rfl, fun w hw' => ?_⟩
    by_cases e : ansF A (s, 0) w = ansF B (t, 0) w
    · exact e
    · exfalso
      refine leastN_inv0 h (num w) ⟨w, hw', rfl, ?_⟩
      rw [ansF_o, ansF_o] at e
      exact e
  | some n =>
    obtain ⟨w, w1, rfl, w3⟩ := fu_len hv hw h3 h3' hs ht h
    exact Or.inr ⟨w, w1, rfl, decW_ok w1, w3⟩
theorem nwd0 : ¬ isWd 0 := by
  rintro ⟨w, h1, h2, h3⟩
  have := wd_pos ⟨h1, h2⟩
  rw [← h3] at this
  exact this (by decide)
theorem S_exam {I : MI} {J : MJ} {σ : SG} {Q : Int32 → MI → MJ → Prop} (h : AbsS I J σ) (q : KS I J (opExam σ) Q) : f_School_exam I J Q := by
  unfold f_School_exam
  unfold opExam at q
  have hp := h.2.2.1
  cases hP : σ.2.2.2.1 with
  | none =>
    rw [hP] at hp q
    rw [if_pos hp.1]
    exact KS.ref q h
  | some P =>
    rw [hP] at hp q
    simp only at q
    obtain ⟨p1, p2, p3, p4, p5, p6, p7, p8, p9, p10, p11⟩ := id hp
    have hS := p11.1
    have hg := p11.g.1
    rw [if_neg (by rw [p1]; decide)]
    refine c_unlike (x := some (0, 0)) (y := some (0, 0)) (by decide) (by decide) p7 p8 hS.1 hg.1 (SpS.firm hS.1 hS.n3) (SpS.firm hg.1 hg.n3) (okSo_0 hS.1) (okSo_0 hg.1) h.2.2.2.2 (fun I1 J1 e1 j1 H1 => ?_)
    have h1 : AbsS I1 J1 σ := h.scr (fun i hi => e1 i (by omega)) (fun i hi => j1 i (by omega)) H1
    have fr1 : FrS I I1 J J1 := ⟨fun i hi => e1 i (by omega), fun i hi => j1 i (by omega)⟩
    unfold f_School_exam_b61
    rcases fu_cases hS.1 hg.1 hS.n3 hg.n3 hS.1.n1 hg.1.n1 with ⟨k1, k2, k3⟩ | ⟨w, hw, k1, k2, k3⟩
    · rw [k2] at q
      rw [k1]
      refine s_lenB nwd0 ?_
      rw [if_pos rfl]
      exact KS.don q fr1 h1
    · rw [k2] at q
      simp only at q
      rw [k1]
      refine s_len hw ?_
      have h30 := hw.1
      have hl30 := p11.2.1
      rw [if_neg (lm1 (by omega)), show I1 37 1 = nI P.2.1 by rw [e1 37 (by omega)]; exact p2]
      by_cases hl : P.2.1 < w.length
      · rw [if_pos hl] at q
        rw [if_neg (by rw [leNN (by omega) (by omega)]; omega)]
        exact KS.don q fr1 h1
      · rw [if_neg hl] at q
        rw [if_pos (by rw [leNN (by omega) (by omega)]; omega)]
        have hp1 : PuS I1 J1 (some P) := by have := h1.2.2.1; rw [hP] at this; exact this
        refine s_learnW hp1 hw k3 (fun I2 J2 f1 f2 pu => ?_)
        rw [pu.g1]
        exact q.don (fr1.tr ⟨fun i hi => f1 i (by omega), fun i hi => f2 i (by omega)⟩) (h1.pup (fun i hi _ => f1 i hi) (fun i hi _ => f2 i hi) pu)
theorem M_exam {I : MI} {J : MJ} {σ : SG} {Q : Int32 → MI → MJ → Prop} (h : AbsM I J σ) (q : KM I J (opExam σ) Q) : f_Model_exam I J Q := by
  unfold f_Model_exam
  unfold opExam at q
  have hp := h.2.2.1
  cases hP : σ.2.2.2.1 with
  | none =>
    rw [hP] at hp q
    rw [if_pos (show I 177 49 = 0 from hp)]
    exact KM.ref q h
  | some P =>
    rw [hP] at hp q
    simp only at q
    obtain ⟨p1, p2, p3, p4, p5, p6, p7, p8, p9, p10, p11⟩ := id hp
    have hS := p11.1
    have hg := p11.g.1
    rw [if_neg (by rw [p1]; decide)]
    refine m_diff (m := 16) (o := 17) (x := some (0, 0)) (y := some (0, 0)) (by decide) (by decide) p7 p8 hS.1 hg.1 hS.n3 hg.n3 (okSo_0 hS.1) (okSo_0 hg.1) (fun I1 J1 d1 => ?_)
    have h1 := d1.ms.abs h
    have fr1 := d1.ms.2.2.2.2
    unfold f_Model_exam_b41
    rcases fu_cases hS.1 hg.1 hS.n3 hg.n3 hS.1.n1 hg.1.n1 with ⟨k1, k2, k3⟩ | ⟨w, hw, k1, k2, k3⟩
    · rw [k2] at q
      rw [k1, if_pos rfl]
      exact KM.don q fr1 h1
    · rw [k2] at q
      simp only at q
      have h30 := hw.1
      have hl30 := p11.2.1
      rw [k1, if_neg (fun e => wd_pos hw (by rw [e]; decide))]
      refine m_len hw ?_
      rw [show I1 177 50 = nI P.2.1 by rw [d1.1 177 (by decide) (by decide) (by decide)]; exact p2]
      by_cases hl : P.2.1 < w.length
      · rw [if_pos hl] at q
        rw [if_neg (by rw [leNN (by omega) (by omega)]; omega)]
        exact KM.don q fr1 h1
      · rw [if_neg hl] at q
        rw [if_pos (by rw [leNN (by omega) (by omega)]; omega)]
        exact m_learnW h1 hP fr1 hw k3 q
