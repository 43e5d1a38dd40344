/-! fewest: tables -/
noncomputable section
def wdW (x : Int64) : List Nat := (decW x).getD []
end
theorem wdW_of {w : List Nat} (h : wOk w) : wdW (lN (num w)) = w := by unfold wdW; rw [decW_ok h]; rfl
theorem wdW_ok {x : Int64} (h : isWd x) : wOk (wdW x) ∧ x = lN (num (wdW x)) := by
  obtain ⟨w, h1, h2, rfl⟩ := h
  rw [wdW_of ⟨h1, h2⟩]
  exact ⟨⟨h1, h2⟩, rfl⟩
theorem KnS.at' {I : MI} {J : MJ} {ks : List (Int64 × Nat)} (h : KnS I J ks) {i : Nat} {q : Int64 × Nat} (hq : ks[i]? = some q) : i < 12 ∧ wOk (wdW q.1) ∧ q.2 ≤ 7 ∧ J 53 i = lN (num (wdW q.1)) ∧ I 54 i = nI q.2 ∧ I 56 i = nI (wdW q.1).length := by
  obtain ⟨⟨k1, k2, k5⟩, k3, k4⟩ := h
  have hi := (List.getElem?_eq_some_iff.mp hq).1
  obtain ⟨w1, w2⟩ := k2 q (List.mem_of_getElem? hq)
  obtain ⟨o1, o2⟩ := wdW_ok w1
  obtain ⟨a1, a2, w, b1, b2, b3, b4⟩ := k4 i q hq
  refine ⟨by omega, o1, w2, by rw [a1]; exact o2, a2, ?_⟩
  rw [b4, b3, wdW_of ⟨b1, b2⟩]
theorem KnM.at' {I : MI} {J : MJ} {ks : List (Int64 × Nat)} (h : KnM I J ks) {i : Nat} {q : Int64 × Nat} (hq : ks[i]? = some q) : i < 12 ∧ wOk (wdW q.1) ∧ q.2 ≤ 7 ∧ J 217 i = lN (num (wdW q.1)) ∧ I 218 i = nI q.2 := by
  obtain ⟨⟨k1, k2, k5⟩, k3, k4⟩ := h
  have hi := (List.getElem?_eq_some_iff.mp hq).1
  obtain ⟨w1, w2⟩ := k2 q (List.mem_of_getElem? hq)
  obtain ⟨o1, o2⟩ := wdW_ok w1
  obtain ⟨a1, a2⟩ := k4 i q hq
  exact ⟨by omega, o1, w2, by rw [a1]; exact o2, a2⟩
/-- words that are known are apart -/
theorem VK.apart {ks : List (Int64 × Nat)} (h : VK ks) {i j : Nat} {q r : Int64 × Nat} (hq : ks[i]? = some q) (hr : ks[j]? = some r) (e : wdW q.1 = wdW r.1) : q = r := by
  obtain ⟨k1, k2, k5⟩ := h
  have e1 := (wdW_ok (k2 q (List.mem_of_getElem? hq)).1).2
  have e2 := (wdW_ok (k2 r (List.mem_of_getElem? hr)).1).2
  have e3 : q.1 = r.1 := by rw [e1, e2, e]
  have hi := (List.getElem?_eq_some_iff.mp hq).1
  have hj := (List.getElem?_eq_some_iff.mp hr).1
  have m1 : (ks.map (fun q => q.1))[i]'(by simpa using hi) = q.1 := by
    rw [List.getElem_map]; rw [List.getElem?_eq_getElem hi] at hq; cases hq; rfl
  have m2 : (ks.map (fun q => q.1))[j]'(by simpa using hj) = r.1 := by
    rw [List.getElem_map]; rw [List.getElem?_eq_getElem hj] at hr; cases hr; rfl
  have hij : i = j := by
    rcases Nat.lt_trichotomy i j with hl | hl | hl
    · exact absurd (m1.trans (e3.trans m2.symm)) ((List.pairwise_iff_getElem.mp k5) i j (by simpa using hi) (by simpa using hj) hl)
    · exact hl
    · exact absurd (m2.trans (e3.symm.trans m1.symm)) ((List.pairwise_iff_getElem.mp k5) j i (by simpa using hj) (by simpa using hi) hl)
  subst hij
  rw [hq] at hr
  exact Option.some.inj hr
/-! how many signs -/
def isKk (ks : List (Int64 × Nat)) (k : Nat) : Prop := 1 ≤ k ∧ k ≤ 4 ∧ (∀ q ∈ ks, ∀ a ∈ wdW q.1, a < k) ∧ (k = 1 ∨ ∃ q ∈ ks, ∃ a ∈ wdW q.1, a + 1 = k)
theorem isKk_u {ks : List (Int64 × Nat)} {k k' : Nat} (h : isKk ks k) (h' : isKk ks k') : k = k' := by
  have key : ∀ {k k' : Nat}, isKk ks k → isKk ks k' → k ≤ k' := by
    intro k k' h h'
    rcases h.2.2.2 with e | ⟨q, hq, a, ha, e⟩
    · have := h'.1; omega
    · have := h'.2.2.1 q hq a ha; omega
  have a := key h h'
  have b := key h' h
  omega
/-! runs by a table -/
def eT (k : Nat) (T : Nat → Nat) (s : Nat) (w : List Nat) : Nat := w.foldl (fun s a => T (s * k + a)) s
def tp (k : Nat) (T : Nat → Nat) : Nat → Nat → List Nat → Nat
  | _, t, [] => t
  | s, t, a :: w => tp k T (T (s * k + a)) (if t < s * k + a + 1 then s * k + a + 1 else t) w
theorem eT_c (k : Nat) (T : Nat → Nat) (s a : Nat) (w : List Nat) : eT k T s (a :: w) = eT k T (T (s * k + a)) w := rfl
theorem eT_app (k : Nat) (T : Nat → Nat) (s : Nat) (u v : List Nat) : eT k T s (u ++ v) = eT k T (eT k T s u) v := by unfold eT; rw [List.foldl_append]
theorem tp_ge (k : Nat) (T : Nat → Nat) : ∀ (w : List Nat) (s t : Nat), t ≤ tp k T s t w
  | [], _, t => Nat.le_refl _
  | a :: w, s, t => by
    unfold tp
    refine Nat.le_trans ?_ (tp_ge k T w _ _)
    split <;> omega
theorem tp_agree {k : Nat} {T T' : Nat → Nat} : ∀ (w : List Nat) (s t : Nat), (∀ c, c < tp k T s t w → T' c = T c) → eT k T' s w = eT k T s w
  | [], _, _, _ => rfl
  | a :: w, s, t, h => by
    unfold tp at h
    rw [eT_c, eT_c]
    have hlt : s * k + a < tp k T (T (s * k + a)) (if t < s * k + a + 1 then s * k + a + 1 else t) w := by
      refine Nat.lt_of_lt_of_le ?_ (tp_ge k T w (T (s * k + a)) (if t < s * k + a + 1 then s * k + a + 1 else t))
      split <;> omega
    rw [h (s * k + a) hlt]
    exact tp_agree w _ _ h
theorem tp_0 {k : Nat} {T : Nat → Nat} {w : List Nat} (h : tp k T 0 0 w = 0) : w = [] := by
  cases w with
  | nil => rfl
  | cons a w =>
    exfalso
    unfold tp at h
    have := tp_ge k T w (T (0 * k + a)) (if 0 < 0 * k + a + 1 then 0 * k + a + 1 else 0)
    rw [if_pos (by omega)] at this
    rw [if_pos (by omega)] at h
    omega
def vT (n N : Nat) (T : Nat → Nat) : Prop := ∀ c, c < N → T c < n
theorem cell_lt {n k s a : Nat} (hs : s < n) (ha : a < k) : s * k + a < n * k := by
  have h1 : (s + 1) * k ≤ n * k := Nat.mul_le_mul_right k (by omega)
  rw [Nat.add_mul, Nat.one_mul] at h1
  omega
theorem eT_lt {n k : Nat} {T : Nat → Nat} (hT : vT n (n * k) T) : ∀ (w : List Nat) (s : Nat), s < n → (∀ a ∈ w, a < k) → eT k T s w < n
  | [], s, hs, _ => hs
  | a :: w, s, hs, hw => by
    rw [eT_c]
    exact eT_lt hT w _ (hT _ (cell_lt hs (hw a (by simp)))) (fun b hb => hw b (by simp [hb]))
theorem tp_le {n k : Nat} {T : Nat → Nat} (hT : vT n (n * k) T) : ∀ (w : List Nat) (s t : Nat), s < n → t ≤ n * k → (∀ a ∈ w, a < k) → tp k T s t w ≤ n * k
  | [], s, t, _, ht, _ => ht
  | a :: w, s, t, hs, ht, hw => by
    have hc := cell_lt hs (hw a (by simp))
    unfold tp
    refine tp_le hT w _ _ (hT _ hc) ?_ (fun b hb => hw b (by simp [hb]))
    split <;> omega
def RgT (ks : List (Int64 × Nat)) (k : Nat) (T : Nat → Nat) : Prop := ∀ q ∈ ks, ∀ r ∈ ks, q.2 ≠ r.2 → eT k T 0 (wdW q.1) ≠ eT k T 0 (wdW r.1)
/-! the order of tables -/
def vl (n : Nat) (T : Nat → Nat) : Nat → Nat
  | 0 => 0
  | j + 1 => vl n T j * n + T j
theorem vl_lt {n : Nat} {T : Nat → Nat} : ∀ {N : Nat}, vT n N T → vl n T N < n ^ N
  | 0, _ => by simp [vl]
  | N + 1, h => by
    have ih := vl_lt (n := n) (T := T) (N := N) (fun c hc => h c (by omega))
    have hN := h N (by omega)
    have h2 : (vl n T N + 1) * n ≤ n ^ N * n := Nat.mul_le_mul_right n (by omega)
    rw [Nat.add_mul, Nat.one_mul] at h2
    show vl n T N * n + T N < n ^ (N + 1)
    rw [Nat.pow_succ]
    omega
theorem vl_agree {n : Nat} {T T' : Nat → Nat} : ∀ {N : Nat}, (∀ c, c < N → T' c = T c) → vl n T' N = vl n T N
  | 0, _ => rfl
  | N + 1, h => by
    show vl n T' N * n + T' N = vl n T N * n + T N
    rw [vl_agree (fun c hc => h c (by omega)), h N (by omega)]
theorem vl_inj {n : Nat} {T T' : Nat → Nat} : ∀ {N : Nat}, vT n N T → vT n N T' → vl n T N = vl n T' N → ∀ c, c < N → T c = T' c
  | 0, _, _, _, c, hc => absurd hc (by omega)
  | N + 1, h, h', e, c, hc => by
    have a1 := h N (by omega)
    have a2 := h' N (by omega)
    have e' : vl n T N * n + T N = vl n T' N * n + T' N := e
    have h0 : 0 < n := by omega
    have hd : vl n T N = vl n T' N := by
      have k1 : (vl n T N * n + T N) / n = vl n T N := by rw [Nat.mul_comm, Nat.mul_add_div h0, Nat.div_eq_of_lt a1]; omega
      have k2 : (vl n T' N * n + T' N) / n = vl n T' N := by rw [Nat.mul_comm, Nat.mul_add_div h0, Nat.div_eq_of_lt a2]; omega
      rw [← k1, ← k2, e']
    by_cases hcN : c = N
    · subst hcN
      rw [hd] at e'
      omega
    · exact vl_inj (fun c hc => h c (by omega)) (fun c hc => h' c (by omega)) hd c (by omega)
theorem vl_mono {n : Nat} {T T' : Nat → Nat} : ∀ {N u : Nat}, u ≤ N → vT n N T → vT n N T' → vl n T N ≤ vl n T' N → vl n T u ≤ vl n T' u
  | 0, u, hu, _, _, e => by have : u = 0 := by omega
                            subst this; exact e
  | N + 1, u, hu, h, h', e => by
    by_cases huN : u = N + 1
    · subst huN; exact e
    · refine vl_mono (N := N) (by omega) (fun c hc => h c (by omega)) (fun c hc => h' c (by omega)) ?_
      have a2 := h' N (by omega)
      have e' : vl n T N * n + T N ≤ vl n T' N * n + T' N := e
      by_cases hx : vl n T N ≤ vl n T' N
      · exact hx
      · exfalso
        have h2 : (vl n T' N + 1) * n ≤ vl n T N * n := Nat.mul_le_mul_right n (by omega)
        rw [Nat.add_mul, Nat.one_mul] at h2
        omega
/-- zeros behind -/
theorem vl_lt0 {n : Nat} {T T' : Nat → Nat} : ∀ {N u : Nat}, u ≤ N → vT n N T → vT n N T' → (∀ c, u ≤ c → c < N → T' c = 0) → vl n T N < vl n T' N → vl n T u < vl n T' u
  | 0, u, hu, _, _, _, e => by have : u = 0 := by omega
                               subst this; exact e
  | N + 1, u, hu, h, h', h0, e => by
    by_cases huN : u = N + 1
    · subst huN; exact e
    · refine vl_lt0 (N := N) (by omega) (fun c hc => h c (by omega)) (fun c hc => h' c (by omega)) (fun c c1 c2 => h0 c c1 (by omega)) ?_
      have z := h0 N (by omega) (by omega)
      have e' : vl n T N * n + T N < vl n T' N * n + T' N := e
      rw [z] at e'
      by_cases hx : vl n T N < vl n T' N
      · exact hx
      · exfalso
        have h2 : vl n T' N * n ≤ vl n T N * n := Nat.mul_le_mul_right n (by omega)
        omega
theorem vl_up {n at' : Nat} {T T' : Nat → Nat} (h1 : ∀ c, c < at' → T' c = T c) (h2 : T' at' = T at' + 1) : ∀ d, (∀ c, at' < c → c < at' + 1 + d → T c + 1 = n ∧ T' c = 0) → vl n T' (at' + 1 + d) = vl n T (at' + 1 + d) + 1
  | 0, _ => by
    show vl n T' at' * n + T' at' = vl n T at' * n + T at' + 1
    rw [vl_agree h1, h2]
    omega
  | d + 1, h => by
    have ih := vl_up h1 h2 d (fun c c1 c2 => h c c1 (by omega))
    obtain ⟨k1, k2⟩ := h (at' + 1 + d) (by omega) (by omega)
    show vl n T' (at' + 1 + d) * n + T' (at' + 1 + d) = vl n T (at' + 1 + d) * n + T (at' + 1 + d) + 1
    rw [ih, k2, Nat.add_mul, Nat.one_mul]
    omega
/-- no table before this one is right -/
def noB (ks : List (Int64 × Nat)) (k n N m : Nat) : Prop := ∀ T, vT n N T → vl n T N < m → ¬ RgT ks k T
theorem noB_adv {ks : List (Int64 × Nat)} {k n N u at' : Nat} {T T' : Nat → Nat} (hu : u ≤ N) (ha : at' < u) (hT : vT n N T) (hT' : vT n N T') (hno : noB ks k n N (vl n T N)) (hcl : ∀ X, vT n N X → (∀ c, c < u → X c = T c) → ¬ RgT ks k X) (h1 : ∀ c, c < at' → T' c = T c) (h2 : T' at' = T at' + 1) (h3 : ∀ c, at' < c → c < u → T c + 1 = n) (h4 : ∀ c, at' < c → c < N → T' c = 0) : noB ks k n N (vl n T' N) ∧ vl n T N < vl n T' N := by
  have hup : vl n T' u = vl n T u + 1 := by
    have := vl_up h1 h2 (u - (at' + 1)) (fun c c1 c2 => ⟨h3 c c1 (by omega), h4 c c1 (by omega)⟩)
    rw [show at' + 1 + (u - (at' + 1)) = u by omega] at this
    exact this
  refine ⟨fun X hX hlt => ?_, ?_⟩
  · by_cases hb : vl n X N < vl n T N
    · exact hno X hX hb
    · have k1 := vl_mono hu hT hX (by omega)
      have k2 := vl_lt0 hu hX hT' (fun c c1 c2 => h4 c (by omega) c2) hlt
      have e : vl n X u = vl n T u := by omega
      exact hcl X hX (vl_inj (fun c hc => hX c (by omega)) (fun c hc => hT c (by omega)) e)
  · by_cases hx : vl n T N < vl n T' N
    · exact hx
    · have := vl_mono hu hT' hT (by omega)
      omega
theorem noB_end {ks : List (Int64 × Nat)} {k n N u : Nat} {T : Nat → Nat} (hu : u ≤ N) (hT : vT n N T) (hno : noB ks k n N (vl n T N)) (hcl : ∀ X, vT n N X → (∀ c, c < u → X c = T c) → ¬ RgT ks k X) (h3 : ∀ c, c < u → T c + 1 = n) : ∀ X, vT n N X → ¬ RgT ks k X := by
  intro X hX
  by_cases hb : vl n X N < vl n T N
  · exact hno X hX hb
  · have k1 := vl_mono hu hT hX (by omega)
    have hmax : ∀ d, d ≤ u → vl n T d + 1 = n ^ d := by
      intro d
      induction d with
      | zero => intro _; simp [vl]
      | succ d ih =>
        intro hd
        have h1 := ih (by omega)
        have h2 := h3 d (by omega)
        show vl n T d * n + T d + 1 = n ^ (d + 1)
        rw [Nat.pow_succ, ← h1, Nat.add_mul, Nat.one_mul]
        omega
    have k2 := vl_lt (n := n) (T := X) (N := u) (fun c hc => hX c (by omega))
    have k3 := hmax u (Nat.le_refl _)
    have e : vl n X u = vl n T u := by omega
    exact hcl X hX (vl_inj (fun c hc => hX c (by omega)) (fun c hc => hT c (by omega)) e)
def fstT (ks : List (Int64 × Nat)) (k n : Nat) (T : Nat → Nat) : Prop := vT n (n * k) T ∧ RgT ks k T ∧ noB ks k n (n * k) (vl n T (n * k))
theorem fstT_u {ks : List (Int64 × Nat)} {k n : Nat} {T T' : Nat → Nat} (h : fstT ks k n T) (h' : fstT ks k n T') : ∀ c, c < n * k → T c = T' c := by
  refine vl_inj h.1 h'.1 ?_
  rcases Nat.lt_trichotomy (vl n T (n * k)) (vl n T' (n * k)) with hl | hl | hl
  · exact absurd h.2.1 (h'.2.2 T h.1 hl)
  · exact hl
  · exact absurd h'.2.1 (h.2.2 T' h'.1 hl)
theorem noB_0 {ks : List (Int64 × Nat)} {k n : Nat} : noB ks k n (n * k) (vl n (fun _ => 0) (n * k)) := by
  intro X _ hlt
  have : ∀ N, vl n (fun _ => 0) N = 0 := by
    intro N
    induction N with
    | zero => rfl
    | succ N ih => show vl n (fun _ => 0) N * n + 0 = 0; rw [ih]; omega
  rw [this] at hlt
  omega
