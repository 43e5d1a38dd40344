/-! SUITE: its parts -/
theorem num_join : ∀ (l f : List Nat), num (f ++ l) + 4 ^ l.length = num f * 4 ^ l.length + num l
  | [], f => by simp [num]
  | a :: l, f => by
    have e1 := num_join l (f ++ [a])
    have e2 := num_join l [a]
    have e3 : num (a :: l) = num ([a] ++ l) := rfl
    have e4 : num [a] = 4 + a := rfl
    have e5 : f ++ a :: l = f ++ [a] ++ l := by simp
    rw [e4] at e2
    rw [num_app] at e1
    rw [e3, e5, List.length_cons, Nat.pow_succ]
    generalize num (f ++ [a] ++ l) = x at *
    generalize num ([a] ++ l) = y at *
    generalize 4 ^ l.length = p at *
    rw [Nat.add_mul, Nat.mul_assoc] at e1
    rw [Nat.add_mul] at e2
    rw [show num f * (p * 4) = 4 * (num f * p) by rw [← Nat.mul_assoc, Nat.mul_comm]]
    generalize num f * p = z at *
    generalize a * p = u at *
    omega
theorem wOk_app {f l : List Nat} (hf : wOk f) (hl : wOk l) (h : f.length + l.length ≤ 30) : wOk (f ++ l) := ⟨by rw [List.length_append]; exact h, fun a ha => (List.mem_append.mp ha).elim (hf.2 a) (hl.2 a)⟩
theorem s_join {f l : List Nat} {I : MI} {J : MJ} {Q : Int64 → MI → MJ → Prop} (hl : wOk l) (q : Q (lN (num (f ++ l))) I J) : f_Words_joined (lN (num f)) (lN (num l)) I J Q := by
  unfold f_Words_joined
  have h30 := hl.1
  refine s_len hl ?_
  by_cases h0 : l.length = 0
  · have e : l = [] := List.eq_nil_of_length_eq_zero h0
    subst e
    rw [List.append_nil] at q
    rw [if_neg (show ¬ (0 : Int32) < nI [].length by decide)]
    exact q
  · have hj := num_join l f
    rw [if_pos (by rw [l0, ltNN (by decide) (by omega)]; omega), s_last hl (Nat.le_refl _), l2, pk_mul, wb_shl (num f) (k := 2 * l.length) (by omega), show (1 : Int64) = lN 1 from rfl, wb_shl 1 (k := 2 * l.length) (by omega), p4, Nat.one_mul, Nat.sub_self, List.drop_zero, lN_add, lN_sub (by omega), show num f * 4 ^ l.length + num l - 4 ^ l.length = num (f ++ l) by omega]
    exact q
theorem m_join {f l : List Nat} {I : MI} {J : MJ} {Q : Int64 → MI → MJ → Prop} (hl : wOk l) (q : Q (lN (num (f ++ l))) I J) : f_Model_joined (lN (num f)) (lN (num l)) I J Q := by
  unfold f_Model_joined
  have h30 := hl.1
  refine m_len hl ?_
  have hj := num_join l f
  have hlo := num_lo hl.2
  rw [l2, pk_mul, wb_shl (num f) (k := 2 * l.length) (by omega), show (1 : Int64) = lN 1 from rfl, wb_shl 1 (k := 2 * l.length) (by omega), p4, Nat.one_mul, lN_sub hlo, lN_add, show num f * 4 ^ l.length + (num l - 4 ^ l.length) = num (f ++ l) by omega]
  exact q
/-! middle parts -/
def mds (h k : Nat) : List (List Nat) := [] :: ((if 1 ≤ h then (List.range k).map (fun a => [a]) else []) ++ (if 2 ≤ h then (List.range (k * k)).map (fun p => [p / k, p % k]) else []))
def mdN (h k : Nat) : Nat := if h = 0 then 0 else if h = 1 then 1 else 1 + k
theorem mds_len {h k : Nat} (hh : h ≤ 2) (h1 : 1 ≤ k) (hk : k ≤ 3) : (mds h k).length = 1 + mdN h k * k ∧ (mds h k).length ≤ 13 ∧ mdN h k ≤ (mds h k).length := by
  have : ∀ h, h < 3 → ∀ k, k < 4 → 1 ≤ k → (mds h k).length = 1 + mdN h k * k ∧ (mds h k).length ≤ 13 ∧ mdN h k ≤ (mds h k).length := by decide +kernel
  exact this h (by omega) k (by omega) h1
theorem mds_kid {h k i a : Nat} {m : List Nat} (hh : h ≤ 2) (h1 : 1 ≤ k) (hk : k ≤ 3) (hi : i < mdN h k) (ha : a < k) (hm : (mds h k)[i]? = some m) : (mds h k)[1 + i * k + a]? = some (m ++ [a]) := by
  have : ∀ i, i < 4 → i < mdN h k → ∀ a, a < 3 → a < k → (mds h k).getD (1 + i * k + a) [] = (mds h k).getD i [] ++ [a] ∧ 1 + i * k + a < (mds h k).length := by
    have c1 : h = 0 ∨ h = 1 ∨ h = 2 := by omega
    have c2 : k = 1 ∨ k = 2 ∨ k = 3 := by omega
    clear hm hi ha
    rcases c1 with rfl | rfl | rfl <;> rcases c2 with rfl | rfl | rfl <;> decide +kernel
  have hN : mdN h k ≤ 4 := by unfold mdN; split <;> (try split) <;> omega
  obtain ⟨e1, e2⟩ := this i (by omega) hi a (by omega) ha
  rw [List.getD_eq_getElem?_getD, List.getD_eq_getElem?_getD, hm, List.getElem?_eq_getElem e2] at e1
  rw [List.getElem?_eq_getElem e2]
  exact congrArg some e1
theorem mds_lt {h k i : Nat} {m : List Nat} (hh : h ≤ 2) (h1 : 1 ≤ k) (hk : k ≤ 3) (hm : (mds h k)[i]? = some m) : m.length < h ↔ i < mdN h k := by
  have : ∀ i, i < 13 → i < (mds h k).length → (((mds h k).getD i []).length < h ↔ i < mdN h k) := by
    have c1 : h = 0 ∨ h = 1 ∨ h = 2 := by omega
    have c2 : k = 1 ∨ k = 2 ∨ k = 3 := by omega
    clear hm
    rcases c1 with rfl | rfl | rfl <;> rcases c2 with rfl | rfl | rfl <;> decide +kernel
  have hl := (List.getElem?_eq_some_iff.mp hm).1
  have h13 := (mds_len hh h1 hk).2.1
  have := this i (by omega) hl
  rw [List.getD_eq_getElem?_getD, hm] at this
  exact this
theorem mds_mem {h k : Nat} {m : List Nat} (hh : h ≤ 2) (h1 : 1 ≤ k) : m ∈ mds h k ↔ m.length ≤ h ∧ ∀ a ∈ m, a < k := by
  unfold mds
  constructor
  · intro hm
    rcases List.mem_cons.mp hm with e | hm
    · subst e; exact ⟨Nat.zero_le _, fun a ha => by cases ha⟩
    · rcases List.mem_append.mp hm with hm | hm
      · by_cases c : 1 ≤ h
        · rw [if_pos c] at hm
          obtain ⟨a, ha, rfl⟩ := List.mem_map.mp hm
          rw [List.mem_range] at ha
          exact ⟨c, fun b hb => by rw [List.mem_singleton] at hb; rw [hb]; exact ha⟩
        · rw [if_neg c] at hm; cases hm
      · by_cases c : 2 ≤ h
        · rw [if_pos c] at hm
          obtain ⟨p, hp, rfl⟩ := List.mem_map.mp hm
          rw [List.mem_range] at hp
          have d1 : p / k < k := Nat.div_lt_of_lt_mul hp
          have d2 : p % k < k := Nat.mod_lt _ (by omega)
          refine ⟨c, fun b hb => ?_⟩
          rcases List.mem_cons.mp hb with e | hb
          · rw [e]; exact d1
          · rw [List.mem_singleton] at hb; rw [hb]; exact d2
        · rw [if_neg c] at hm; cases hm
  · rintro ⟨k1, k2⟩
    match m, k1, k2 with
    | [], _, _ => exact List.mem_cons_self
    | [a], k1, k2 =>
      refine List.mem_cons_of_mem _ (List.mem_append_left _ ?_)
      rw [if_pos (show 1 ≤ h from k1)]
      exact List.mem_map.mpr ⟨a, List.mem_range.mpr (k2 a (by simp)), rfl⟩
    | [a, b], k1, k2 =>
      refine List.mem_cons_of_mem _ (List.mem_append_right _ ?_)
      rw [if_pos (show 2 ≤ h from k1)]
      have ha := k2 a (by simp)
      have hb := k2 b (by simp)
      have hm := Nat.mul_le_mul_right k (show a + 1 ≤ k from ha)
      rw [Nat.add_mul, Nat.one_mul] at hm
      refine List.mem_map.mpr ⟨a * k + b, List.mem_range.mpr (by omega), ?_⟩
      have d1 : (a * k + b) / k = a := by rw [Nat.add_comm, Nat.add_mul_div_right _ _ (by omega), Nat.div_eq_of_lt hb, Nat.zero_add]
      have d2 : (a * k + b) % k = b := by rw [Nat.add_comm, Nat.add_mul_mod_self_right, Nat.mod_eq_of_lt hb]
      simp only [d1, d2]
    | a :: b :: c :: m, k1, _ =>
      simp only [List.length_cons] at k1
      omega
/-! the SUITE -/
def isF (L : AM) (f : List Nat) : Prop := ∃ s, s < aN L ∧ (f = ac L s ∨ ∃ a, a < L.2.1 ∧ f = ac L s ++ [a])
def isLa (L : AM) (l : List Nat) : Prop := l = [] ∨ ∃ s t, s < t ∧ t < aN L ∧ fuW L L (some (s, 0)) (some (t, 0)) = some l
def isHd (L : AM) (h : Nat) (w : List Nat) : Prop := ∃ f m, isF L f ∧ m ∈ mds h L.2.1 ∧ w = f ++ m
def isSW (L : AM) (h : Nat) (w : List Nat) : Prop := ∃ f l, isHd L h f ∧ isLa L l ∧ w = f ++ l
theorem isF_ok {L : AM} (h : GoodL L) (hn : aN L ≤ 6) {f : List Nat} (hf : isF L f) : f.length ≤ 6 ∧ ∀ a ∈ f, a < 4 := by
  obtain ⟨s, hs, hf⟩ := hf
  have h1 := ac_len h s hs
  have h2 := (ac_is h hs).1
  have hk := h.1.1.2.2.1
  rcases hf with rfl | ⟨a, ha, rfl⟩
  · exact ⟨by omega, h2⟩
  · refine ⟨by rw [List.length_append, List.length_singleton]; omega, fun b hb => ?_⟩
    rcases List.mem_append.mp hb with hb | hb
    · exact h2 b hb
    · rw [List.mem_singleton] at hb; omega
theorem isHd_ok {L : AM} (h : GoodL L) (hn : aN L ≤ 6) {d : Nat} (hd : d ≤ 2) {w : List Nat} (hw : isHd L d w) : w.length ≤ 8 ∧ ∀ a ∈ w, a < 4 := by
  obtain ⟨f, m, hf, hm, rfl⟩ := hw
  obtain ⟨f1, f2⟩ := isF_ok h hn hf
  have hk := h.1.1.2.2.1
  obtain ⟨m1, m2⟩ := (mds_mem hd h.1.1.2.1).mp hm
  refine ⟨by rw [List.length_append]; omega, fun b hb => ?_⟩
  rcases List.mem_append.mp hb with hb | hb
  · exact f2 b hb
  · have := m2 b hb; omega
theorem fu_L {L : AM} (h : GoodL L) {s t : Nat} (hst : s < t) (ht : t < aN L) : ∃ w, fuW L L (some (s, 0)) (some (t, 0)) = some w ∧ w.length < aN L ∧ (∀ a ∈ w, a < 4) ∧ fuN L L (some (s, 0)) (some (t, 0)) = lN (num w) := by
  obtain ⟨v, v1, v2⟩ := h.2.2.2 s t hst ht
  have hv := h.1.1
  have h3 := h.1.n3
  have h14 := hv.2.2.2.2.1
  have hne : ¬ eqN (ld L) (anS L) 4 s t := fun hh => v2 (by
    have := hh v v1
    rw [ansN_ld hv h3, ansN_ld hv h3] at this
    exact this)
  obtain ⟨u, u1, u2, u3⟩ := moore (n := aN L) (fun i hi => anS_8 hv hi) (fun i a j hi ha hj => (ld_lt hv hj).1) (show s < aN L by omega) ht hne
  rw [ansN_ld hv h3, ansN_ld hv h3] at u3
  have hu : fuP L L (some (s, 0)) (some (t, 0)) u := by rw [ansF_o, ansF_o] at u3; exact u3
  unfold fuW fuN
  cases hl : leastN (WdP (fuP L L (some (s, 0)) (some (t, 0)))) with
  | none => exact absurd ⟨u, u2, rfl, hu⟩ (leastN_inv0 hl (num u))
  | some n =>
    obtain ⟨w, w1, w2, w3, w4⟩ := least_len hl u2 hu
    subst w2
    exact ⟨w, decW_ok ⟨by omega, w1⟩, by omega, w1, rfl⟩
theorem isLa_ok {L : AM} (h : GoodL L) (hn : aN L ≤ 6) {l : List Nat} (hl : isLa L l) : l.length ≤ 5 ∧ ∀ a ∈ l, a < 4 := by
  rcases hl with rfl | ⟨s, t, hst, ht, e⟩
  · exact ⟨by decide, fun a ha => by cases ha⟩
  · obtain ⟨w, w1, w2, w3, w4⟩ := fu_L h hst ht
    rw [w1] at e
    cases e
    exact ⟨by omega, w3⟩
theorem isSW_ok {L : AM} (h : GoodL L) (hn : aN L ≤ 6) {d : Nat} (hd : d ≤ 2) {w : List Nat} (hw : isSW L d w) : wOk w := by
  obtain ⟨f, l, hf, hl, rfl⟩ := hw
  obtain ⟨f1, f2⟩ := isHd_ok h hn hd hf
  obtain ⟨l1, l2⟩ := isLa_ok h hn hl
  exact wOk_app ⟨by omega, f2⟩ ⟨by omega, l2⟩ (by omega)
/-! where the access words come from -/
theorem lex1 {s s' a a' k : Nat} (ha : a < k) (h : s < s') : s * k + a < s' * k + a' := by
  have := Nat.mul_le_mul_right k (show s + 1 ≤ s' from h)
  rw [Nat.add_mul, Nat.one_mul] at this
  omega
theorem lex2 {s s' a a' k : Nat} (ha : a < k) (ha' : a' < k) (e : s * k + a = s' * k + a') : s = s' ∧ a = a' := by
  rcases Nat.lt_trichotomy s s' with h | h | h
  · have := lex1 (a' := a') ha h; omega
  · subst h; exact ⟨rfl, by omega⟩
  · have := lex1 (a' := a) ha' h; omega
def isPs (L : AM) (p : Nat → Nat) : Prop := ∀ t, 1 ≤ t → t < aN L → ∃ s a, s < t ∧ a < L.2.1 ∧ p t = s * L.2.1 + a ∧ ld L s a = some t ∧ ac L t = ac L s ++ [a]
theorem ps_ex {L : AM} (h : GoodL L) : ∃ p, isPs L p := by
  have : ∀ t : Nat, ∃ P : Nat, 1 ≤ t → t < aN L → ∃ s a, s < t ∧ a < L.2.1 ∧ P = s * L.2.1 + a ∧ ld L s a = some t ∧ ac L t = ac L s ++ [a] := fun t => by
    by_cases ht : 1 ≤ t ∧ t < aN L
    · obtain ⟨s, a, k1, k2, k3, k4⟩ := ac_parent h ht.1 ht.2
      exact ⟨s * L.2.1 + a, fun _ _ => ⟨s, a, k1, k2, rfl, k3, k4⟩⟩
    · exact ⟨0, fun h1 h2 => absurd ⟨h1, h2⟩ ht⟩
  obtain ⟨p, hp⟩ := Classical.axiomOfChoice this
  exact ⟨p, hp⟩
theorem ps_mono {L : AM} (h : GoodL L) {p : Nat → Nat} (hp : isPs L p) {t t' : Nat} (h1 : 1 ≤ t) (htt : t < t') (ht' : t' < aN L) : p t < p t' := by
  obtain ⟨s, a, s1, s2, s3, s4, s5⟩ := hp t h1 (by omega)
  obtain ⟨s', a', r1, r2, r3, r4, r5⟩ := hp t' (by omega) ht'
  have hlt := ac_lt h htt ht'
  have hk := h.1.1.2.2.1
  rw [s5, r5, num_app, num_app] at hlt
  rw [s3, r3]
  rcases Nat.lt_trichotomy s s' with c | c | c
  · exact lex1 s2 c
  · subst c; omega
  · have := ac_lt h c (by omega); omega
theorem ps_chain {L : AM} (h : GoodL L) {p : Nat → Nat} (hp : isPs L p) : ∀ (d t : Nat), 1 ≤ t → t + d < aN L → p t + d ≤ p (t + d)
  | 0, t, _, _ => Nat.le_refl _
  | d + 1, t, h1, h2 => by
    have k1 := ps_chain h hp d t h1 (by omega)
    have k2 := ps_mono h hp (t := t + d) (t' := t + d + 1) (by omega) (by omega) (by omega)
    have e : t + (d + 1) = t + d + 1 := by omega
    rw [e]
    omega
theorem ps_lt {L : AM} (h : GoodL L) {p : Nat → Nat} (hp : isPs L p) {t : Nat} (h1 : 1 ≤ t) (ht : t < aN L) : p t + (aN L - 1 - t) < aN L * L.2.1 ∧ p t < t * L.2.1 := by
  have k1 := ps_chain h hp (aN L - 1 - t) t h1 (by omega)
  have e : t + (aN L - 1 - t) = aN L - 1 := by omega
  rw [e] at k1
  obtain ⟨s, a, s1, s2, s3, _, _⟩ := hp (aN L - 1) (by omega) (by omega)
  obtain ⟨s', a', r1, r2, r3, _, _⟩ := hp t h1 ht
  have k2 := lex1 (k := L.2.1) (a' := 0) s2 (show s < aN L by omega)
  have k3 := lex1 (k := L.2.1) (a' := 0) r2 r1
  exact ⟨by omega, by omega⟩
/-- the states that have been reached when sign a of state s is looked at -/
def psR (L : AM) (p : Nat → Nat) (r P : Nat) : Prop := 1 ≤ r ∧ r ≤ aN L ∧ ∀ t, 1 ≤ t → t < aN L → (t < r ↔ p t < P)
theorem ps_hit {L : AM} (h : GoodL L) {p : Nat → Nat} (hp : isPs L p) {s a r : Nat} (hs : s < aN L) (ha : a < L.2.1) (hR : psR L p r (s * L.2.1 + a)) (e : ld L s a = some r) : ac L r = ac L s ++ [a] ∧ r < aN L ∧ psR L p (r + 1) (s * L.2.1 + a + 1) := by
  obtain ⟨h1, h2, h3⟩ := hR
  have hr : r < aN L := (ld_lt h.1.1 e).1
  have hk := h.1.1.2.2.1
  obtain ⟨s', a', r1, r2, r3, r4, r5⟩ := hp r h1 hr
  have hle := ac_le h hs e
  rw [r5, num_app] at hle
  have hnl : ¬ p r < s * L.2.1 + a := fun hh => by have := (h3 r h1 hr).mpr hh; omega
  have key : s' = s ∧ a' = a := by
    rcases Nat.lt_trichotomy s' s with c | c | c
    · have := lex1 (a' := a) r2 c; omega
    · subst c; exact ⟨rfl, by omega⟩
    · have := ac_lt h c (by omega); omega
  obtain ⟨rfl, rfl⟩ := key
  refine ⟨r5, hr, by omega, by omega, fun t t1 t2 => ?_⟩
  have k := h3 t t1 t2
  constructor
  · intro ht
    by_cases c : t = r
    · subst c; omega
    · have := k.mp (by omega); omega
  · intro ht
    by_cases c : p t < s' * L.2.1 + a'
    · have := k.mpr c; omega
    · by_cases c2 : t ≤ r
      · omega
      · have := ps_mono h hp h1 (show r < t by omega) t2; omega
theorem ps_miss {L : AM} (h : GoodL L) {p : Nat → Nat} (hp : isPs L p) {s a r : Nat} (hs : s < aN L) (ha : a < L.2.1) (hR : psR L p r (s * L.2.1 + a)) (e : ld L s a ≠ some r) : psR L p r (s * L.2.1 + a + 1) ∧ s * L.2.1 + a + 1 + aN L ≤ aN L * L.2.1 + r := by
  obtain ⟨h1, h2, h3⟩ := hR
  have hno : ∀ t, 1 ≤ t → t < aN L → p t ≠ s * L.2.1 + a := fun t t1 t2 et => by
    obtain ⟨s', a', r1, r2, r3, r4, r5⟩ := hp t t1 t2
    obtain ⟨rfl, rfl⟩ := lex2 r2 ha (r3.symm.trans et)
    have hnl : ¬ t < r := fun hh => by have := (h3 t t1 t2).mp hh; omega
    by_cases c : t = r
    · subst c; exact e r4
    · have k1 := ps_mono h hp h1 (show r < t by omega) t2
      have := (h3 r h1 (by omega)).mpr (by omega)
      omega
  refine ⟨⟨h1, h2, fun t t1 t2 => ?_⟩, ?_⟩
  · have k := h3 t t1 t2
    have := hno t t1 t2
    constructor
    · intro ht; have := k.mp ht; omega
    · intro ht; exact k.mpr (by omega)
  · by_cases c : r < aN L
    · have k1 := (ps_lt h hp h1 c).1
      have k2 := hno r h1 c
      have k3 : ¬ p r < s * L.2.1 + a := fun hh => by have := (h3 r h1 c).mpr hh; omega
      omega
    · have := lex1 (k := L.2.1) (a' := 0) ha hs
      omega
theorem ps_0 {L : AM} (h : GoodL L) {p : Nat → Nat} : psR L p 1 0 := ⟨Nat.le_refl _, h.1.1.n1, fun t t1 _ => ⟨fun hh => by omega, fun hh => by omega⟩⟩
theorem ps_row {L : AM} (h : GoodL L) {p : Nat → Nat} (hp : isPs L p) {s r : Nat} (hs : s < aN L) (hR : psR L p r (s * L.2.1)) : s < r := by
  by_cases c : s = 0
  · have := hR.1; omega
  · exact (hR.2.2 s (by omega) hs).mpr (ps_lt h hp (by omega) hs).2
/-- the heads, gathered without a second time -/
theorem heads_all {L : AM} (h : GoodL L) {d : Nat} (hd : d ≤ 2) {H : List (List Nat)} (h1 : ∀ s, s < aN L → ac L s ∈ H) (h2 : ∀ s a, s < aN L → a < L.2.1 → (∃ t, t < aN L ∧ ac L t = ac L s ++ [a]) ∨ ∀ m ∈ mds d L.2.1, ac L s ++ [a] ++ m ∈ H) {w : List Nat} (hw : isHd L d w) : w ∈ H := by
  have hk1 := h.1.1.2.1
  have key : ∀ (m : List Nat) (s : Nat), s < aN L → m ∈ mds d L.2.1 → ac L s ++ m ∈ H := by
    intro m
    induction m with
    | nil => intro s hs _; rw [List.append_nil]; exact h1 s hs
    | cons b m ih =>
      intro s hs hm
      obtain ⟨m1, m2⟩ := (mds_mem hd hk1).mp hm
      have hm' : m ∈ mds d L.2.1 := (mds_mem hd hk1).mpr ⟨by rw [List.length_cons] at m1; omega, fun a ha => m2 a (List.mem_cons_of_mem _ ha)⟩
      have e : ac L s ++ b :: m = ac L s ++ [b] ++ m := by simp
      rw [e]
      rcases h2 s b hs (m2 b List.mem_cons_self) with ⟨t, t1, t2⟩ | hh
      · rw [← t2]; exact ih t t1 hm'
      · exact hh m hm'
  obtain ⟨f, m, ⟨s, hs, hf⟩, hm, rfl⟩ := hw
  rcases hf with rfl | ⟨a, ha, rfl⟩
  · exact key m s hs hm
  · rcases h2 s a hs ha with ⟨t, t1, t2⟩ | hh
    · rw [← t2]; exact key m t t1 hm
    · exact hh m hm
