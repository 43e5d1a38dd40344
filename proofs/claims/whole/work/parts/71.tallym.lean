/-! the reference's tails -/
def TlM (J : MJ) (A : AM) (v n : Nat) : Prop := ∀ s c, s < aN A → c < 4 → J 200 (56 * n + 4 * s + c) = lN (tl A v n (some (s, c)))
def CodM (J : MJ) (A : AM) (v N : Nat) : Prop := ∀ n s c, s < aN A → c < 4 → 56 * n + 4 * s + c < N → J 200 (56 * n + 4 * s + c) = lN (tl A v n (some (s, c)))
theorem set1415 {I : MI} {x y : Int32} {J : MJ} {K : MI → Prop} (k : ∀ I', Sc I I' → I' 177 14 = x → I' 177 15 = y → K I') : ∀ I14 : MI, I14 = sI I 177 (upd (I 177) 14 x) → ∀ I20 : MI, I20 = sI I14 177 (upd (I14 177) 15 y) → K I20 := by
  intro I1 e1 I2 e2
  subst e1 e2
  exact k _ ((Sc.u14 _).tr (Sc.u15 _)) (by rw [sI_s, pk_un (by decide), sI_s, pk_us]) (by rw [sI_s, pk_us])
theorem m_sumOf {m v n s c : Nat} {A : AM} {I : MI} {J : MJ} {Q : Int64 → MI → MJ → Prop} (hm : m < 20) (hA : RepM I m A) (hv : VA A) (hs : s < aN A) (hc : c < 4) (hn : n < 30) (ht : TlM J A v n) (q : ∀ I', Sc I I' → Q (lN (tl A v (n + 1) (some (s, c)))) I' J) : f_Model_sumOf (nI m) (nI (n + 1)) (nI s) (nI c) I J Q := by
  unfold f_Model_sumOf
  have hn14 := hv.2.2.2.2.1
  refine lp3 (fun k (z : Nat) (a : Nat) (I1 : MI) => f_Model_sumOf_L6 (nI m) (nI (n + 1)) (nI s) (nI c) _ k (lN z) (nI a) I1 J) (fun z a I1 => a ≤ 4 ∧ Sc I I1 ∧ z = sm (fun b => tl A v n (dl A (s, c) b)) a) (fun _ a _ => 4 - a) ?_ 0 0 I ⟨by decide, Sc.rf, rfl⟩
  rintro k z a I1 ⟨b1, b2, b3⟩ ih
  unfold f_Model_sumOf_L6
  by_cases ea : a = 4
  · rw [if_pos (show (4 : Int32) ≤ nI a by rw [ea]; decide)]
    have := q I1 b2
    rw [tl_s, ← ea, ← b3] at this
    exact this
  · rw [if_neg (show ¬ (4 : Int32) ≤ nI a by rw [l4, leNN (by decide) (by omega)]; omega)]
    refine set1415 (J := J) (fun I2 e2 x1 x2 => ?_)
    refine m_go (sc := (s, c)) hm ((b2.tr e2).rep hA) hv hs hc (by omega) ⟨x1, x2⟩ (fun hd => ?_) (fun t hd I3 e3 at3 => ?_)
    · rw [if_pos rfl]
      unfold f_Model_sumOf_b61
      rw [nI_1, forall_eq]
      exact ih z (a + 1) I2 ⟨by omega, b2.tr e2, by rw [b3]; simp only [sm]; rw [hd, tl_none]; omega⟩ (by omega)
    · obtain ⟨d1, d2, _⟩ := dl_ok hv (show (s, c).2 < 4 from hc) hd
      rw [if_neg (by decide), at3.1, at3.2, nI_pred, l56, l4, pk_mul, pk_mul, nI_add, nI_add, vpN (by omega), nI_clamp (by omega), ht t.1 t.2 d1 d2, forall_eq, lN_add]
      refine ⟨by omega, ?_⟩
      unfold f_Model_sumOf_b61
      rw [nI_1, forall_eq]
      exact ih _ (a + 1) I3 ⟨by omega, (b2.tr e2).tr e3, by rw [b3]; simp only [sm]; rw [hd]⟩ (by omega)
theorem CodM.w {J J' : MJ} {A : AM} {v n s c : Nat} (h : CodM J A v (56 * n + 4 * s + c)) (h14 : aN A ≤ 14) (hs : s < aN A) (hc : c < 4) (e : ∀ k, J' 200 k = if k = 56 * n + 4 * s + c then lN (tl A v n (some (s, c))) else J 200 k) : CodM J' A v (56 * n + 4 * s + (c + 1)) := by
  intro n' s' c' h1 h2 h3
  rw [e]
  by_cases hk : 56 * n' + 4 * s' + c' = 56 * n + 4 * s + c
  · rw [if_pos hk]
    have e1 : n' = n := by omega
    have e2 : s' = s := by omega
    have e3 : c' = c := by omega
    rw [e1, e2, e3]
  · rw [if_neg hk]
    exact h n' s' c' h1 h2 (by omega)
theorem m_tails {m v : Nat} {A : AM} {I : MI} {J : MJ} {Q : MI → MJ → Prop} (hm : m < 20) (hA : RepM I m A) (hv : VA A) (hv8 : v ≤ 8) (q : ∀ I' J', Sc I I' → (∀ i, i ≠ 200 → J' i = J i) → (∀ n, n ≤ 30 → TlM J' A v n) → Q I' J') : f_Model_findTails (nI m) (nI v) I J Q := by
  unfold f_Model_findTails
  have hn14 := hv.2.2.2.2.1
  refine lp3 (fun k (n : Nat) (I1 : MI) (J1 : MJ) => f_Model_findTails_L2 (nI m) (nI v) _ k (nI n) I1 J1) (fun n I1 J1 => n ≤ 31 ∧ Sc I I1 ∧ (∀ i, i ≠ 200 → J1 i = J i) ∧ CodM J1 A v (56 * n)) (fun n _ _ => 31 - n) ?_ 0 I J ⟨by decide, Sc.rf, fun _ _ => rfl, fun n s c _ _ h => absurd h (by omega)⟩
  rintro k n I1 J1 ⟨b1, b2, b3, b4⟩ ih
  unfold f_Model_findTails_L2
  by_cases en : n = 31
  · rw [if_pos (show (30 : Int32) < nI n by rw [en]; decide)]
    exact q I1 J1 b2 b3 (fun n' hn' s c hs hc => b4 n' s c hs hc (by omega))
  · rw [if_neg (show ¬ (30 : Int32) < nI n by rw [l30, ltNN (by decide) (by omega)]; omega)]
    refine lp3 (fun k (s : Nat) (I2 : MI) (J2 : MJ) => f_Model_findTails_L11 (nI m) (nI v) (nI n) _ k (nI s) I2 J2) (fun s I2 J2 => s ≤ aN A ∧ Sc I I2 ∧ (∀ i, i ≠ 200 → J2 i = J i) ∧ CodM J2 A v (56 * n + 4 * s)) (fun s _ _ => aN A - s) ?_ 0 I1 J1 ⟨Nat.zero_le _, b2, b3, b4⟩
    rintro k2 s I2 J2 ⟨c1, c2, c3, c4⟩ ih2
    have hA2 := c2.rep hA
    unfold f_Model_findTails_L11
    rw [vpN (by omega), nI_clamp (by omega), hA2.2.1]
    refine ⟨hm, ?_⟩
    by_cases es : s = aN A
    · rw [if_pos (show nI (aN A) ≤ nI s by rw [es, leNN (by omega) (by omega)]; omega), nI_1, forall_eq]
      exact ih (n + 1) I2 J2 ⟨by omega, c2, c3, fun n' s' c' h1 h2 h3 => c4 n' s' c' h1 h2 (by omega)⟩ (by omega)
    · rw [if_neg (show ¬ nI (aN A) ≤ nI s by rw [leNN (by omega) (by omega)]; omega)]
      refine lp3 (fun k (c : Nat) (I3 : MI) (J3 : MJ) => f_Model_findTails_L25 (nI m) (nI v) (nI n) (nI s) _ k (nI c) I3 J3) (fun c I3 J3 => c ≤ 4 ∧ Sc I I3 ∧ (∀ i, i ≠ 200 → J3 i = J i) ∧ CodM J3 A v (56 * n + 4 * s + c)) (fun c _ _ => 4 - c) ?_ 0 I2 J2 ⟨Nat.zero_le _, c2, c3, c4⟩
      rintro k3 c I3 J3 ⟨d1, d2, d3, d4⟩ ih3
      have hA3 := d2.rep hA
      unfold f_Model_findTails_L25
      by_cases ec : c = 4
      · rw [if_pos (show (4 : Int32) ≤ nI c by rw [ec]; decide), nI_1, forall_eq]
        exact ih2 (s + 1) I3 J3 ⟨by omega, d2, d3, fun n' s' c' h1 h2 h3 => d4 n' s' c' h1 h2 (by omega)⟩ (by omega)
      · have ok : c < 4 := by omega
        have os : s < aN A := by omega
        rw [if_neg (show ¬ (4 : Int32) ≤ nI c by rw [l4, leNN (by decide) (by omega)]; omega)]
        have fin : ∀ I4, Sc I I4 → f_Model_findTails_b85 (nI c) (((56 * nI n) + (4 * nI s)) + nI c) (lN (tl A v n (some (s, c)))) (f_Model_findTails_L25 (nI m) (nI v) (nI n) (nI s) (fun (I : MI) (J : MJ) => ∀ t92 : Int32, t92 = nI s + 1 → f_Model_findTails_L11 (nI m) (nI v) (nI n) (fun (I : MI) (J : MJ) => ∀ t98 : Int32, t98 = nI n + 1 → f_Model_findTails_L2 (nI m) (nI v) (fun (I : MI) (J : MJ) => Q I J) k t98 I J) k2 t92 I J) k3) I4 J3 := by
          intro I4 e4
          unfold f_Model_findTails_b85
          rw [l56, l4, pk_mul, pk_mul, nI_add, nI_add, vpN (by omega), nI_clamp (by omega)]
          refine ⟨by omega, fun J4 e5 t et => ?_⟩
          rw [et, nI_1 c]
          exact ih3 (c + 1) I4 J4 ⟨by omega, e4, fun i hi => by rw [e5, sJ_at, if_neg hi]; exact d3 i hi, d4.w hn14 os ok (fun k => by rw [e5, sJ_at, if_pos rfl, updL_at])⟩ (by omega)
        cases n with
        | zero =>
          obtain ⟨z, hz⟩ := VA.get os
          have h8 := anS_8 hv os
          rw [if_pos (by decide), l14, pk_mul, nI_add, vpN (by omega), nI_clamp (by omega), (hA3.2.2.2 s z hz).1, ← anS_of hz]
          refine ⟨by omega, ?_⟩
          by_cases ev : anS A s = v
          · rw [if_pos (by rw [ev])]
            have := fin I3 d2
            simp only [tl, ev, if_true] at this
            exact this
          · rw [if_neg (by rw [eqNN (by omega) (by omega)]; exact ev)]
            have := fin I3 d2
            simp only [tl, ev, if_false] at this
            exact this
        | succ n =>
          rw [if_neg (nI_ne0 (by omega) (by omega))]
          refine m_sumOf hm hA3 hv os ok (by omega) (fun s' c' hs' hc' => d4 n s' c' hs' hc' (by omega)) (fun I4 e4 => ?_)
          exact fin I4 (d2.tr e4)
/-- the tables are no part of what is told -/
theorem AbsM.s200 {I I' : MI} {J J' : MJ} {σ : SG} (h : AbsM I J σ) (e : Sc I I') (ej : ∀ i, i ≠ 200 → J' i = J i) : AbsM I' J' σ := h.scr (fun k hk => e.2 k (by intro e; subst e; revert hk; decide) (by intro e; subst e; revert hk; decide)) (fun i hi => e.1 i (by omega)) (fun q _ => MEq.of (fun i a b => e.1 i (by omega))) ⟨by rw [ej 177 (by decide)], ej 180 (by decide), ej 215 (by decide), ej 216 (by decide), ej 217 (by decide)⟩
theorem FrM.s200 {I I' : MI} {J J' : MJ} (e : Sc I I') (ej : ∀ i, i ≠ 200 → J' i = J i) : FrM I I' J J' := ⟨fun i hi => e.1 i (by omega), fun i hi => ej i (by omega)⟩
theorem M_count {x v n : Int32} {I : MI} {J : MJ} {σ : SG} {Q : Int64 → MI → MJ → Prop} (h : AbsM I J σ) (q : KMg I J (opCount x v n σ, σ) Q) : f_Model_count x v n I J Q := by
  unfold f_Model_count
  rw [M_isM h]
  unfold opCount at q
  rcases maC_cases σ x with ⟨p, A, hp, rfl, ht, e, e0⟩ | ⟨e, e0⟩
  · rw [e] at q
    rw [if_pos e0, if_neg (by decide)]
    simp only at q
    have hP := (h.1 p hp).1
    rw [ht] at hP
    obtain ⟨g1, g2, g3⟩ := hP
    rcases idx_cases (N := 8) (by decide) v with ⟨v', hv', rfl, ev⟩ | ⟨hb, ev⟩
    · rw [if_neg (nI0_lt (by omega)), if_neg (show ¬ (7 : Int32) < nI v' by rw [l7, ltNN (by decide) (by omega)]; omega)]
      rcases idx_cases (N := 31) (by decide) n with ⟨m, hm, rfl, en⟩ | ⟨hb, en⟩
      · rw [ev, en] at q
        rw [if_neg (nI0_lt (by omega)), if_pos (show nI m ≤ 30 by rw [l30, leNN (by omega) (by decide)]; omega)]
        refine m_tails (by omega) g2 g3 (by omega) (fun I1 J1 e1 e2 e3 => ?_)
        rw [l56, pk_mul, vpN (by omega), nI_clamp (by omega)]
        have := e3 m (by omega) 0 0 g3.n1 (by decide)
        rw [show 56 * m + 4 * 0 + 0 = 56 * m by omega] at this
        rw [this]
        exact ⟨by omega, q I1 J1 (FrM.s200 e1 e2) (h.s200 e1 e2)⟩
      · rw [ev, en] at q
        have q' := q I J FrM.rf h
        by_cases hn : n < 0
        · rw [if_pos hn]; exact q'
        · rcases hb with hb | hb
          · exact absurd hb hn
          · obtain ⟨m, hm, rfl⟩ := nI_of hn
            rw [leNN (by decide) hm] at hb
            rw [if_neg hn, if_neg (show ¬ nI m ≤ 30 by rw [l30, leNN hm (by decide)]; omega)]
            exact q'
    · rw [ev] at q
      have q' := q I J FrM.rf h
      by_cases hn : v < 0
      · rw [if_pos hn]; exact q'
      · rcases hb with hb | hb
        · exact absurd hb hn
        · obtain ⟨m, hm, rfl⟩ := nI_of hn
          rw [leNN (by decide) hm] at hb
          rw [if_neg hn, if_pos (show (7 : Int32) < nI m by rw [l7, ltNN (by decide) hm]; omega)]
          exact q'
  · rw [e] at q
    rw [if_neg e0, if_pos rfl]
    exact q I J FrM.rf h
