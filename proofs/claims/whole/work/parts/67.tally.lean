/-! count, word, place: how many words get where -/
def sm (f : Nat → Nat) : Nat → Nat
  | 0 => 0
  | n + 1 => sm f n + f n
def tl (A : AM) (v : Nat) : Nat → Option (Nat × Nat) → Nat
  | _, none => 0
  | 0, some q => if anS A q.1 = v then 1 else 0
  | n + 1, some q => tl A v n (dl A q 0) + tl A v n (dl A q 1) + tl A v n (dl A q 2) + tl A v n (dl A q 3)
theorem tl_none (A : AM) (v n : Nat) : tl A v n none = 0 := by cases n <;> rfl
theorem tl_s (A : AM) (v n : Nat) (q : Nat × Nat) : tl A v (n + 1) (some q) = sm (fun a => tl A v n (dl A q a)) 4 := by
  simp [tl, sm]
theorem tl_le (A : AM) (v : Nat) : ∀ (n : Nat) (x : Option (Nat × Nat)), tl A v n x ≤ 4 ^ n
  | n, none => by rw [tl_none]; exact Nat.zero_le _
  | 0, some q => by simp only [tl]; split <;> simp
  | n + 1, some q => by
    have h0 := tl_le A v n (dl A q 0)
    have h1 := tl_le A v n (dl A q 1)
    have h2 := tl_le A v n (dl A q 2)
    have h3 := tl_le A v n (dl A q 3)
    rw [Nat.pow_succ]
    simp only [tl]
    omega
theorem tl_60 (A : AM) (v : Nat) {n : Nat} (hn : n ≤ 30) (x : Option (Nat × Nat)) : tl A v n x ≤ 2 ^ 60 := by
  have h1 := tl_le A v n x
  have h2 : 4 ^ n ≤ 4 ^ 30 := Nat.pow_le_pow_right (by decide) hn
  have h3 : (4 : Nat) ^ 30 = 2 ^ 60 := by decide
  omega
theorem sm_z {f : Nat → Nat} {k : Nat} : ∀ m, k ≤ m → (∀ a, k ≤ a → f a = 0) → sm f m = sm f k
  | 0, h, _ => by have : k = 0 := by omega
                  rw [this]
  | m + 1, h, hz => by
    by_cases e : k = m + 1
    · rw [e]
    · simp only [sm]
      rw [sm_z m (by omega) hz, hz m (by omega)]
      rfl
/-- spots of a machine: counts only where there are acts -/
def okS (A : AM) (q : Nat × Nat) : Prop := q.1 < aN A ∧ q.2 < 4 ∧ (A.1 ≠ 3 → q.2 = 0)
theorem okS_0 {A : AM} (hv : VA A) : okS A (0, 0) := ⟨hv.n1, by decide, fun _ => rfl⟩
theorem okS_dl {A : AM} (hv : VA A) {q t : Nat × Nat} {a : Nat} (h : okS A q) (e : dl A q a = some t) : okS A t := by
  obtain ⟨k1, k2, _⟩ := dl_ok hv h.2.1 e
  refine ⟨k1, k2, fun h3 => ?_⟩
  unfold dl at e
  cases hx : tkO A q.1 a with
  | none => rw [hx] at e; cases e
  | some x =>
    obtain ⟨m1, m2, m3, m4, m5⟩ := tkO_v hv hx
    rw [hx] at e
    cases hy : x.1 with
    | none => simp [hy] at e
    | some t' =>
      simp [hy, m3 h3, cnt] at e
      rw [← e]
      exact h.2.2 h3
def okSo (A : AM) (x : Option (Nat × Nat)) : Prop := ∀ q, x = some q → okS A q
theorem okSo_dl {A : AM} (hv : VA A) {x : Option (Nat × Nat)} (hx : okSo A x) (a : Nat) : okSo A (x.bind (fun q => dl A q a)) := by
  intro q hq
  cases x with
  | none => cases hq
  | some y => exact okS_dl hv (hx y rfl) hq
theorem okSo.p {A : AM} {x : Option (Nat × Nat)} (hx : okSo A x) : okSp A x := fun q hq => ⟨(hx q hq).1, (hx q hq).2.1⟩
theorem okSo_0 {A : AM} (hv : VA A) : okSo A (some (0, 0)) := fun q hq => by cases hq; exact okS_0 hv
/-- the class' tables -/
def TS (I I' : MI) (J J' : MJ) : Prop := (∀ i, i ≠ 25 → I' i = I i) ∧ ∀ i, i ≠ 24 → J' i = J i
theorem TS.rf {I : MI} {J : MJ} : TS I I J J := ⟨fun _ _ => rfl, fun _ _ => rfl⟩
theorem TS.tr {I I' I'' : MI} {J J' J'' : MJ} (h : TS I I' J J') (h' : TS I' I'' J' J'') : TS I I'' J J'' := ⟨fun i hi => (h'.1 i hi).trans (h.1 i hi), fun i hi => (h'.2 i hi).trans (h.2 i hi)⟩
theorem TS.rep {I I' : MI} {J J' : MJ} {o : Nat} {A : AM} (h : TS I I' J J') (ho : 25 < o) (hA : RepC I o A) : RepC I' o A := hA.kp (fun i h1 h2 => h.1 i (by omega))
theorem TS.abs {I I' : MI} {J J' : MJ} {σ : SG} (h : TS I I' J J') (hA : AbsS I J σ) : AbsS I' J' σ := hA.scr (fun i hi => h.1 i (by omega)) (fun i hi => h.2 i (by omega)) (hA.2.2.2.2.kp ⟨by rw [h.1 2 (by decide)], h.1 4 (by decide), h.1 5 (by decide)⟩)
theorem TS.fr {I I' : MI} {J J' : MJ} (h : TS I I' J J') : FrS I I' J J' := ⟨fun i hi => h.1 i (by omega), fun i hi => h.2 i (by omega)⟩
def Ways (J : MJ) (A : AM) (v n : Nat) : Prop := ∀ q, okS A q → J 24 (n * 56 + (q.1 * 4 + q.2)) = lN (tl A v n (some q))
def Steps (I : MI) (A : AM) : Prop := ∀ q a, okS A q → a < A.2.1 → I 25 ((q.1 * 4 + q.2) * 4 + a) = enP (dl A q a)
theorem code_inj {q r : Nat × Nat} (hq : q.2 < 4) (hr : r.2 < 4) (e : q.1 * 4 + q.2 = r.1 * 4 + r.2) : q = r := by
  apply Prod.ext <;> omega
theorem s_ways {A : AM} {v n : Nat} {x : Option (Nat × Nat)} {I : MI} {J : MJ} {Q : Int64 → MI → MJ → Prop} (hv : VA A) (hw : Ways J A v n) (hn : n ≤ 30) (hx : okSo A x) : f_Tally_waysFrom (nI n) (enP x) I J Q ↔ Q (lN (tl A v n x)) I J := by
  unfold f_Tally_waysFrom
  cases x with
  | none => rw [if_pos (show enP none = -1 from rfl), tl_none]; rfl
  | some q =>
    have hq := hx q rfl
    have h14 : q.1 < 14 := by have := hv.2.2.2.2.1; have := hq.1; omega
    have h4 := hq.2.1
    rw [if_neg (fun hh => by rw [enP_m1 hv hx.p] at hh; cases hh)]
    rw [show enP (some q) = nI (q.1 * 4 + q.2) from rfl, l56, pk_mul, nI_add, vpN (by omega), nI_clamp (by omega), hw q hq]
    exact ⟨fun h => h.2, fun h => ⟨by omega, h⟩⟩
theorem s_step {o : Nat} {A : AM} {I : MI} {J : MJ} {Q : Int32 → MI → MJ → Prop} (hA : RepC I o A) (hk : A.1 ≤ 3) : f_Machine_spotStep o I J Q ↔ Q (nI (if A.1 = 3 then 1 else 4)) I J := by
  unfold f_Machine_spotStep
  rw [hA.1]
  by_cases h3 : A.1 = 3
  · rw [if_pos (show nI A.1 = 3 by rw [h3]; rfl), if_pos h3]; rfl
  · rw [if_neg (show ¬ nI A.1 = 3 by rw [l3, eqNN (by omega) (by decide)]; exact h3), if_neg h3]; rfl
/-- a spot number of the loops: its state and count -/
theorem spot_ok {A : AM} {j : Nat} (h1 : j < aN A * 4) (h2 : A.1 ≠ 3 → j % 4 = 0) : okS A (j / 4, j % 4) ∧ j / 4 * 4 + j % 4 = j := ⟨⟨by simp only; omega, by simp only; omega, h2⟩, by omega⟩
theorem s_fill1 {o v : Nat} {A : AM} {I : MI} {J : MJ} {Q : MI → MJ → Prop} (ho : 25 < o) (hA : RepC I o A) (hv : VA A) (hv8 : v ≤ 8) (q : ∀ I' J', TS I I' J J' → Ways J' A v 0 → Steps I' A → Q I' J') : f_Tally_fillFirst o (nI v) I J Q := by
  unfold f_Tally_fillFirst
  rw [s_step hA hv.1]
  have hn14 := hv.2.2.2.2.1
  have hk4 := hv.2.2.1
  refine lp3 (fun n (j : Nat) (I1 : MI) (J1 : MJ) => f_Tally_fillFirst_L8 o (nI v) (nI (if A.1 = 3 then 1 else 4)) _ n (nI j) I1 J1) (fun j I1 J1 => j ≤ aN A * 4 ∧ (A.1 ≠ 3 → j % 4 = 0) ∧ TS I I1 J J1 ∧ (∀ q, okS A q → q.1 * 4 + q.2 < j → J1 24 (q.1 * 4 + q.2) = lN (tl A v 0 (some q)) ∧ ∀ a, a < A.2.1 → I1 25 ((q.1 * 4 + q.2) * 4 + a) = enP (dl A q a))) (fun j _ _ => aN A * 4 - j) ?_ 0 I J ⟨Nat.zero_le _, fun _ => rfl, TS.rf, fun q _ hh => absurd hh (Nat.not_lt_zero _)⟩
  rintro n j I1 J1 ⟨b1, b2, b3, b4⟩ ih
  have hA1 := b3.rep ho hA
  unfold f_Tally_fillFirst_L8
  rw [hA1.2.1, l4, pk_mul]
  by_cases e : j = aN A * 4
  · rw [if_pos (show nI (aN A * 4) ≤ nI j by rw [e, leNN (by omega) (by omega)]; omega)]
    refine q I1 J1 b3 (fun q hq => ?_) (fun q a hq ha => ?_)
    · have := (b4 q hq (by have := hq.1; have := hq.2.1; omega)).1
      rw [Nat.zero_mul, Nat.zero_add]; exact this
    · exact (b4 q hq (by have := hq.1; have := hq.2.1; omega)).2 a ha
  · rw [if_neg (show ¬ nI (aN A * 4) ≤ nI j by rw [leNN (by omega) (by omega)]; omega)]
    obtain ⟨o1, o2⟩ := spot_ok (A := A) (j := j) (by omega) b2
    have o3 : okSo A (some (j / 4, j % 4)) := fun q hq => by cases hq; exact o1
    have ej : nI j = enP (some (j / 4, j % 4)) := by simp only [enP]; rw [o2]
    rw [ej, s_ansAt hA1 hv o3.p]
    have fin : ∀ z : Nat, z = tl A v 0 (some (j / 4, j % 4)) → f_Tally_fillFirst_b40 o (nI (if A.1 = 3 then 1 else 4)) (enP (some (j / 4, j % 4))) (enP (some (j / 4, j % 4))) (lN z) (f_Tally_fillFirst_L8 o (nI v) (nI (if A.1 = 3 then 1 else 4)) (fun (I : MI) (J : MJ) => Q I J) n) I1 J1 := by
      intro z hz
      unfold f_Tally_fillFirst_b40
      rw [← ej, vpN (by omega), nI_clamp (by omega)]
      refine ⟨by omega, fun J2 e2 => ?_⟩
      have hT2 : TS I I1 J J2 := b3.tr ⟨fun _ _ => rfl, fun i hi => by rw [e2, sJ_at, if_neg hi]⟩
      refine lp2 (fun n (a : Nat) (I2 : MI) => f_Tally_fillFirst_L44 o (nI j) _ n (nI a) I2 J2) (fun a I2 => a ≤ A.2.1 ∧ TS I I2 J J2 ∧ (∀ k, (k < j * 4 ∨ j * 4 + 4 ≤ k) → I2 25 k = I1 25 k) ∧ ∀ b, b < a → I2 25 (j * 4 + b) = enP (dl A (j / 4, j % 4) b)) (fun a _ => 4 - a) ?_ 0 I1 ⟨Nat.zero_le _, hT2, fun _ _ => rfl, fun b hb => absurd hb (Nat.not_lt_zero _)⟩
      rintro m a I2 ⟨c1, c2, c3, c4⟩ ih2
      have hA2 := c2.rep ho hA
      unfold f_Tally_fillFirst_L44
      rw [hA2.2.2.1]
      by_cases ea : a = A.2.1
      · rw [if_pos (show nI A.2.1 ≤ nI a by rw [ea, leNN (by omega) (by omega)]; omega), nI_add, forall_eq]
        have hst : (A.1 = 3 ∧ (if A.1 = 3 then 1 else 4) = 1) ∨ (A.1 ≠ 3 ∧ (if A.1 = 3 then 1 else 4) = 4) := by
          by_cases h3 : A.1 = 3
          · exact Or.inl ⟨h3, if_pos h3⟩
          · exact Or.inr ⟨h3, if_neg h3⟩
        refine ih (j + (if A.1 = 3 then 1 else 4)) I2 J2 ⟨?_, ?_, c2, fun q hq hlt => ?_⟩ ?_
        · rcases hst with ⟨h3, e⟩ | ⟨h3, e⟩ <;> rw [e]
          · omega
          · have := b2 h3; omega
        · intro h3
          rcases hst with ⟨h3', e⟩ | ⟨_, e⟩
          · exact absurd h3' h3
          · have := b2 h3; rw [e]; omega
        · have hcase : q.1 * 4 + q.2 < j ∨ q = (j / 4, j % 4) := by
            by_cases hc : q.1 * 4 + q.2 < j
            · exact Or.inl hc
            · refine Or.inr (code_inj hq.2.1 o1.2.1 ?_)
              rw [o2]
              rcases hst with ⟨h3, e⟩ | ⟨h3, e⟩
              · rw [e] at hlt; omega
              · rw [e] at hlt
                have := b2 h3
                have := hq.2.2 h3
                omega
          rcases hcase with hc | rfl
          · obtain ⟨d1, d2⟩ := b4 q hq hc
            refine ⟨by rw [e2, sJ_at, if_pos rfl, updL_at, if_neg (by omega)]; exact d1, fun b hb => ?_⟩
            rw [c3 _ (by omega)]
            exact d2 b hb
          · simp only
            rw [o2]
            exact ⟨by rw [e2, sJ_at, if_pos rfl, updL_at, if_pos rfl, hz], fun b hb => c4 b (by omega)⟩
        · rcases hst with ⟨h3, e⟩ | ⟨h3, e⟩ <;> rw [e] <;> omega
      · rw [if_neg (show ¬ nI A.2.1 ≤ nI a by rw [leNN (by omega) (by omega)]; omega), ej, s_nextO hA2 hv o3.p (by omega), ← ej, l4, pk_mul, nI_add, vpN (by omega), nI_clamp (by omega)]
        refine ⟨by omega, fun I3 e3 t et => ?_⟩
        rw [et, nI_1]
        refine ih2 (a + 1) I3 ⟨by omega, c2.tr ⟨fun i hi => by rw [e3, sI_n _ _ hi], fun _ _ => rfl⟩, fun k hk => by rw [e3, sI_s, upd_at, if_neg (by omega)]; exact c3 k hk, fun b hb => ?_⟩ (by omega)
        rw [e3, sI_s, upd_at]
        by_cases hba : b = a
        · rw [if_pos (by omega), hba]; rfl
        · rw [if_neg (by omega)]; exact c4 b (by omega)
    have h8 : anS A (j / 4) ≤ 7 := anS_8 hv o1.1
    show if nI (anS A (j / 4)) = nI v then _ else _
    by_cases ev : anS A (j / 4) = v
    · rw [if_pos (by rw [ev])]
      exact fin 1 (by simp [tl, ev])
    · rw [if_neg (show ¬ nI (anS A (j / 4)) = nI v by rw [eqNN (by omega) (by omega)]; exact ev)]
      exact fin 0 (by simp [tl, ev])
