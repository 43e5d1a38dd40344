/-! SUITE: gathering, the class -/
def WdA (J : MJ) (c : Nat) (W : List (List Nat)) : Prop := ∀ (i : Nat) (w : List Nat), W[i]? = some w → J c i = lN (num w)
theorem WdA.kp {J J' : MJ} {c : Nat} {W : List (List Nat)} (h : WdA J c W) (e : J' c = J c) : WdA J' c W := fun i w hw => by rw [e]; exact h i w hw
theorem WdA.add {J J' : MJ} {c : Nat} {W : List (List Nat)} {w : List Nat} (h : WdA J c W) (e : J' = sJ J c (vp_updL (J c) W.length (lN (num w)))) : WdA J' c (W ++ [w]) := fun i v hv => by
  rw [e, sJ_s, updL_at]
  rcases app_get hv with ⟨u1, u2⟩ | ⟨u1, u2⟩
  · rw [if_neg (by omega)]; exact h i v u2
  · rw [if_pos u1, u2]
theorem WdA.nil {J : MJ} {c : Nat} : WdA J c [] := fun i w hw => by simp at hw
theorem num_4 {w : List Nat} {a : Nat} (ha : a < 2 ^ 31) : (4 : Int64) * lN (num w) + (nI a).toInt64 = lN (num (w ++ [a])) := by
  rw [nI_l (by omega), show (4 : Int64) = lN 4 from rfl, lN_mul, lN_add, ← num_app]
/-- what gathering changes: fields of the suite -/
def GfS (I I' : MI) (J J' : MJ) (f c d : Nat) : Prop := (∀ i, i ≠ 26 → I' i = I i) ∧ (∀ j, j ≠ f → I' 26 j = I 26 j) ∧ ∀ i, i ≠ c → i ≠ d → J' i = J i
theorem GfS.rf {I : MI} {J : MJ} {f c d : Nat} : GfS I I J J f c d := ⟨fun _ _ => rfl, fun _ _ => rfl, fun _ _ _ => rfl⟩
theorem GfS.tr {I I' I'' : MI} {J J' J'' : MJ} {f c d : Nat} (h : GfS I I' J J' f c d) (h' : GfS I' I'' J' J'' f c d) : GfS I I'' J J'' f c d := ⟨fun i hi => (h'.1 i hi).trans (h.1 i hi), fun i hi => (h'.2.1 i hi).trans (h.2.1 i hi), fun i a b => (h'.2.2 i a b).trans (h.2.2 i a b)⟩
theorem s_mid_in {i c k : Nat} {m : List Nat} {I : MI} {J : MJ} {K : MI → MJ → Prop} (hk : I 27 2 = nI k) (hm : J 34 i = lN (num m)) (hi : i < c) (hc : c + k ≤ 13) (h2 : I 26 2 = nI c) (q : ∀ I' J', GfS I I' J J' 2 34 34 → I' 26 2 = nI (c + k) → (∀ j, j < c → J' 34 j = J 34 j) → (∀ a, a < k → J' 34 (c + a) = lN (num (m ++ [a]))) → K I' J') : ∃ n, f_Suite_gatherMiddles_L50 (nI i) 1 K n 0 I J := by
  refine lp3 (fun f (a : Nat) (I1 : MI) (J1 : MJ) => f_Suite_gatherMiddles_L50 (nI i) 1 K f (nI a) I1 J1) (fun a I1 J1 => a ≤ k ∧ GfS I I1 J J1 2 34 34 ∧ I1 26 2 = nI (c + a) ∧ (∀ j, j < c → J1 34 j = J 34 j) ∧ ∀ b, b < a → J1 34 (c + b) = lN (num (m ++ [b]))) (fun a _ _ => k - a) ?_ 0 I J ⟨Nat.zero_le _, GfS.rf, h2, fun _ _ => rfl, fun b hb => absurd hb (Nat.not_lt_zero _)⟩
  rintro f a I1 J1 ⟨b1, b2, b3, b4, b5⟩ ih
  unfold f_Suite_gatherMiddles_L50
  rw [if_neg (show ¬ (1 : Int32) = 0 by decide), b2.1 27 (by decide), hk]
  by_cases ea : a = k
  · subst ea
    rw [if_pos (by rw [leNN (by omega) (by omega)]; exact Nat.le_refl _)]
    exact q I1 J1 b2 b3 b4 b5
  · rw [if_neg (by rw [leNN (by omega) (by omega)]; omega), b3, if_neg (by rw [l13, leNN (by decide) (by omega)]; omega), vpN (by omega), vpN (by omega), nI_clamp (by omega), nI_clamp (by omega), b4 i hi, hm, num_4 (by omega)]
    refine ⟨by omega, by omega, fun J2 e2 I2 f2 t et => ?_⟩
    rw [et, nI_1 a]
    rw [nI_1 (c + a)] at f2
    have m2 : ∀ j, J2 34 j = if j = c + a then lN (num (m ++ [a])) else J1 34 j := fun j => by rw [e2, sJ_s, updL_at]
    refine ih (a + 1) I2 J2 ⟨by omega, b2.tr ⟨fun j hj => by rw [f2, sI_n _ _ hj], fun j hj => by rw [f2, sI_s, pk_un hj], fun j hj _ => by rw [e2, sJ_n _ _ hj]⟩, by rw [f2, sI_s, pk_us]; rfl, fun j hj => by rw [m2, if_neg (by omega)]; exact b4 j hj, fun b hb => ?_⟩ (by omega)
    rw [m2]
    by_cases e : b = a
    · subst e; rw [if_pos rfl]
    · rw [if_neg (by omega)]; exact b5 b (by omega)
theorem s_mid {h k : Nat} {I : MI} {J : MJ} {Q : MI → MJ → Prop} (hh : h ≤ 2) (h1 : 1 ≤ k) (h3 : k ≤ 3) (hk : I 27 2 = nI k) (q : ∀ I' J', GfS I I' J J' 2 34 34 → I' 26 2 = nI (mds h k).length → WdA J' 34 (mds h k) → Q I' J') : f_Suite_gatherMiddles (nI h) I J Q := by
  unfold f_Suite_gatherMiddles
  obtain ⟨n1, n2, n3⟩ := mds_len hh h1 h3
  refine ⟨vp0 (by decide), fun J1 e1 I1 f1 => ?_⟩
  have z1 : J1 34 0 = lN (num []) := by rw [e1, sJ_s]; exact pk_uLs
  have st : GfS I I1 J J1 2 34 34 := ⟨fun j hj => by rw [f1, sI_n _ _ hj], fun j hj => by rw [f1, sI_s, pk_un hj], fun j hj _ => by rw [e1, sJ_n _ _ hj]⟩
  refine lp3 (fun f (i : Nat) (I2 : MI) (J2 : MJ) => f_Suite_gatherMiddles_L14 (nI h) _ f (nI i) I2 J2) (fun i I2 J2 => i ≤ (mds h k).length ∧ GfS I I2 J J2 2 34 34 ∧ (i ≤ mdN h k → I2 26 2 = nI (1 + i * k) ∧ ∀ (j : Nat) (m : List Nat), j < 1 + i * k → (mds h k)[j]? = some m → J2 34 j = lN (num m)) ∧ (mdN h k ≤ i → I2 26 2 = nI (mds h k).length ∧ WdA J2 34 (mds h k))) (fun i _ _ => 13 - i) ?_ 0 I1 J1 ⟨Nat.zero_le _, st, ?_, ?_⟩
  · rintro f i I2 J2 ⟨b1, b2, b3, b4⟩ ih
    unfold f_Suite_gatherMiddles_L14
    have stay : mdN h k ≤ i → i < (mds h k).length → f_Suite_gatherMiddles_b114 (nI i) (f_Suite_gatherMiddles_L14 (nI h) (fun (I : MI) (J : MJ) => Q I J) f) I2 J2 := fun hN hl => by
      unfold f_Suite_gatherMiddles_b114
      intro t et
      rw [et, nI_1 i]
      exact ih (i + 1) I2 J2 ⟨by omega, b2, fun hx => absurd hx (by omega), fun _ => b4 hN⟩ (by omega)
    by_cases hN : i < mdN h k
    · obtain ⟨c1, c2⟩ := b3 (by omega)
      have hik : i * k + k ≤ mdN h k * k := by have := Nat.mul_le_mul_right k (show i + 1 ≤ mdN h k from hN); rw [Nat.add_mul, Nat.one_mul] at this; exact this
      have hik1 : i ≤ i * k := Nat.le_mul_of_pos_right i h1
      have hg := List.getElem?_eq_getElem (show i < (mds h k).length by omega)
      generalize (mds h k)[i] = m at hg
      have hlt := (mds_lt hh h1 h3 hg).mpr hN
      have hmm := (mds_mem hh h1).mp (List.mem_of_getElem? hg)
      rw [c1, if_neg (by rw [leNN (by omega) (by omega)]; omega), if_neg (by rw [l13, leNN (by decide) (by omega)]; omega), vpN (by omega), nI_clamp (by omega), c2 i m (by omega) hg]
      refine ⟨by omega, s_len ⟨by omega, fun a ha => by have := hmm.2 a ha; omega⟩ ?_⟩
      rw [if_neg (by rw [leNN (by omega) (by omega)]; omega)]
      unfold f_Suite_gatherMiddles_b46
      refine s_mid_in (c := 1 + i * k) (k := k) (m := m) (by rw [b2.1 27 (by decide)]; exact hk) (c2 i m (by omega) hg) (by omega) (by omega) c1 (fun I3 J3 g1 g2 g3 g4 => ?_)
      unfold f_Suite_gatherMiddles_b114
      intro t et
      rw [et, nI_1 i]
      have hnew : ∀ (j : Nat) (m' : List Nat), j < 1 + i * k + k → (mds h k)[j]? = some m' → J3 34 j = lN (num m') := fun j m' hj hm' => by
        by_cases c : j < 1 + i * k
        · rw [g3 j c]; exact c2 j m' c hm'
        · have := mds_kid hh h1 h3 hN (show j - (1 + i * k) < k by omega) hg
          rw [show 1 + i * k + (j - (1 + i * k)) = j by omega, hm'] at this
          cases this
          have := g4 (j - (1 + i * k)) (by omega)
          rw [show 1 + i * k + (j - (1 + i * k)) = j by omega] at this
          exact this
      have e : 1 + (i + 1) * k = 1 + i * k + k := by rw [Nat.add_mul, Nat.one_mul]; omega
      refine ih (i + 1) I3 J3 ⟨by omega, b2.tr g1, fun _ => ?_, fun hx => ?_⟩ (by omega)
      · rw [e]; exact ⟨g2, hnew⟩
      · have eN : mdN h k = i + 1 := by omega
        rw [eN, e] at n1
        rw [n1]
        exact ⟨g2, fun j m' hm' => hnew j m' (by have := (List.getElem?_eq_some_iff.mp hm').1; omega) hm'⟩
    · obtain ⟨c1, c2⟩ := b4 (by omega)
      rw [c1]
      by_cases hl : i = (mds h k).length
      · rw [if_pos (by rw [hl]; exact Int32.le_refl _)]
        exact q I2 J2 b2 c1 c2
      · have hg := List.getElem?_eq_getElem (show i < (mds h k).length by omega)
        generalize (mds h k)[i] = m at hg
        have hlt := mds_lt hh h1 h3 hg
        have hmm := (mds_mem hh h1).mp (List.mem_of_getElem? hg)
        rw [if_neg (by rw [leNN (by omega) (by omega)]; omega), if_neg (by rw [l13, leNN (by decide) (by omega)]; omega), vpN (by omega), nI_clamp (by omega), c2 i m hg]
        refine ⟨by omega, s_len ⟨by omega, fun a ha => by have := hmm.2 a ha; omega⟩ ?_⟩
        rw [if_pos (by rw [leNN (by omega) (by omega)]; omega)]
        unfold f_Suite_gatherMiddles_b46
        refine ⟨1, ?_⟩
        unfold f_Suite_gatherMiddles_L50
        rw [if_pos rfl]
        exact stay (by omega) (by omega)
  · intro _
    refine ⟨by rw [f1, sI_s, pk_us, Nat.zero_mul]; rfl, fun j m hj hm => ?_⟩
    have e : j = 0 := by rw [Nat.zero_mul] at hj; omega
    subst e
    have : m = [] := by
      have h0 : (mds h k)[0]? = some [] := rfl
      rw [h0] at hm
      cases hm
      rfl
    rw [this]
    exact z1
  · intro hx
    have e0 : mdN h k = 0 := by omega
    rw [e0, Nat.zero_mul] at n1
    refine ⟨by rw [f1, sI_s, pk_us, n1]; rfl, fun j m hm => ?_⟩
    have hj := (List.getElem?_eq_some_iff.mp hm).1
    have e : j = 0 := by omega
    subst e
    have : m = [] := by
      have h0 : (mds h k)[0]? = some [] := rfl
      rw [h0] at hm
      cases hm
      rfl
    rw [this]
    exact z1
/-! heads -/
theorem s_addHd {H : List (List Nat)} {w : List Nat} {I : MI} {J : MJ} {Q : MI → MJ → Prop} (hl : H.length < 175) (h1 : I 26 1 = nI H.length) (hH : WdA J 33 H) (q : ∀ I' J', GfS I I' J J' 1 33 33 → I' 26 1 = nI (H ++ [w]).length → WdA J' 33 (H ++ [w]) → Q I' J') : f_Suite_addHead (lN (num w)) I J Q := by
  unfold f_Suite_addHead
  rw [h1, if_neg (by rw [show (175 : Int32) = nI 175 from rfl, leNN (by decide) (by omega)]; omega), vpN (by omega), nI_clamp (by omega), nI_1]
  refine ⟨hl, fun J1 e1 I1 f1 => ?_⟩
  refine q I1 J1 ⟨fun j hj => by rw [f1, sI_n _ _ hj], fun j hj => by rw [f1, sI_s, pk_un hj], fun j hj _ => by rw [e1, sJ_n _ _ hj]⟩ ?_ (hH.add e1)
  rw [f1, sI_s, pk_us, List.length_append]
  rfl
theorem s_addHds {M H : List (List Nat)} {w : List Nat} {I : MI} {J : MJ} {Q : MI → MJ → Prop} (hM : WdA J 34 M) (m2 : I 26 2 = nI M.length) (mo : ∀ m ∈ M, wOk m) (hl : H.length + M.length ≤ 175) (hM3 : M.length ≤ 13) (h1 : I 26 1 = nI H.length) (hH : WdA J 33 H) (q : ∀ I' J', GfS I I' J J' 1 33 33 → I' 26 1 = nI (H ++ M.map (fun m => w ++ m)).length → WdA J' 33 (H ++ M.map (fun m => w ++ m)) → Q I' J') : f_Suite_addHeads (lN (num w)) I J Q := by
  unfold f_Suite_addHeads
  refine lp3 (fun f (i : Nat) (I1 : MI) (J1 : MJ) => f_Suite_addHeads_L2 (lN (num w)) _ f (nI i) I1 J1) (fun i I1 J1 => i ≤ M.length ∧ GfS I I1 J J1 1 33 33 ∧ I1 26 1 = nI (H ++ (M.take i).map (fun m => w ++ m)).length ∧ WdA J1 33 (H ++ (M.take i).map (fun m => w ++ m))) (fun i _ _ => M.length - i) ?_ 0 I J ⟨Nat.zero_le _, GfS.rf, by simpa using h1, by simpa using hH⟩
  rintro f i I1 J1 ⟨b1, b2, b3, b4⟩ ih
  unfold f_Suite_addHeads_L2
  rw [b2.2.1 2 (by decide), m2]
  by_cases ei : i = M.length
  · rw [if_pos (by rw [ei]; exact Int32.le_refl _)]
    rw [ei, List.take_length] at b3 b4
    exact q I1 J1 b2 b3 b4
  · have hg := List.getElem?_eq_getElem (show i < M.length by omega)
    have ht : M.take (i + 1) = M.take i ++ [M[i]] := (List.take_append_getElem (show i < M.length by omega)).symm
    generalize M[i] = m at hg ht
    rw [if_neg (by rw [leNN (by omega) (by omega)]; omega), vpN (by omega), nI_clamp (by omega), b2.2.2 34 (by decide) (by decide), hM i m hg]
    refine ⟨by omega, s_join (mo m (List.mem_of_getElem? hg)) ?_⟩
    have hlt : (H ++ (M.take i).map (fun m => w ++ m)).length = H.length + i := by rw [List.length_append, List.length_map, List.length_take]; omega
    refine s_addHd (by omega) b3 b4 (fun I2 J2 g1 g2 g3 => ?_)
    intro t et
    rw [et, nI_1 i]
    have e : H ++ (M.take (i + 1)).map (fun m => w ++ m) = H ++ (M.take i).map (fun m => w ++ m) ++ [w ++ m] := by rw [ht]; simp
    exact ih (i + 1) I2 J2 ⟨by omega, b2.tr g1, by rw [e]; exact g2, by rw [e]; exact g3⟩ (by omega)
/-- the heads gathered when sign a of state s is looked at -/
def hdI (L : AM) (d : Nat) (H : List (List Nat)) (s' P : Nat) : Prop := (∀ w ∈ H, isHd L d w) ∧ (∀ s, s < s' → ac L s ∈ H) ∧ ∀ s a, s < aN L → a < L.2.1 → s * L.2.1 + a < P → (∃ t, t < aN L ∧ ac L t = ac L s ++ [a]) ∨ ∀ m ∈ mds d L.2.1, ac L s ++ [a] ++ m ∈ H
/-- the cells when sign a of state s is looked at -/
def hdC (L : AM) (d : Nat) (I0 : MI) (J0 : MJ) (r c s' P : Nat) (H : List (List Nat)) (I : MI) (J : MJ) : Prop := hdI L d H s' P ∧ GfS I0 I J0 J 1 32 33 ∧ I 26 1 = nI H.length ∧ WdA J 33 H ∧ (∀ t, t < r → J 32 t = lN (num (ac L t))) ∧ H.length = s' + c * (mds d L.2.1).length ∧ c ≤ 13 ∧ c + (r - 1) = P
theorem s_head_in {L : AM} {d s r0 c0 : Nat} {p : Nat → Nat} {H0 : List (List Nat)} {I0 I : MI} {J0 J : MJ} {K : Int32 → MI → MJ → Prop} (h : GoodL L) (hp : isPs L p) (hd : d ≤ 2) (hn : aN L ≤ 6) (hk : L.2.1 ≤ 3) (hL : RepC I0 27 L) (hM : WdA J0 34 (mds d L.2.1)) (m2 : I0 26 2 = nI (mds d L.2.1).length) (hs : s < aN L) (hR : psR L p r0 (s * L.2.1)) (hC : hdC L d I0 J0 r0 c0 (s + 1) (s * L.2.1) H0 I J) (q : ∀ r c H I' J', psR L p r ((s + 1) * L.2.1) → hdC L d I0 J0 r c (s + 1) ((s + 1) * L.2.1) H I' J' → K (nI r) I' J') : ∃ n, f_Suite_gatherHeads_L45 (nI s) K n (nI r0) 0 I J := by
  have hv := h.1.1
  have hk1 := hv.2.1
  obtain ⟨n1, n2, n3⟩ := mds_len hd hk1 hk
  have hmo : ∀ m ∈ mds d L.2.1, wOk m := fun m hm => by
    obtain ⟨k1, k2⟩ := (mds_mem hd hk1).mp hm
    exact ⟨by omega, fun a ha => by have := k2 a ha; omega⟩
  refine lp4 (fun f (a : Nat) (x : Nat × Nat × List (List Nat)) (I1 : MI) (J1 : MJ) => f_Suite_gatherHeads_L45 (nI s) K f (nI x.1) (nI a) I1 J1) (fun a x I1 J1 => a ≤ L.2.1 ∧ psR L p x.1 (s * L.2.1 + a) ∧ hdC L d I0 J0 x.1 x.2.1 (s + 1) (s * L.2.1 + a) x.2.2 I1 J1) (fun a _ _ _ => L.2.1 - a) ?_ 0 (r0, c0, H0) I J ⟨Nat.zero_le _, hR, hC⟩
  rintro f a ⟨r, c, H⟩ I1 J1 ⟨b1, b2, b3⟩ ih
  simp only at b2 b3
  obtain ⟨⟨i1, i2, i3⟩, c1, c2, c3, c4, c5, c6, c7⟩ := id b3
  have hr1 := b2.1
  have hr2 := b2.2.1
  show f_Suite_gatherHeads_L45 (nI s) K (f + 1) (nI r) (nI a) I1 J1
  unfold f_Suite_gatherHeads_L45
  have hL1 : RepC I1 27 L := hL.kp (fun i a b => c1.1 i (by omega))
  rw [hL1.2.2.1]
  by_cases ea : a = L.2.1
  · rw [if_pos (by rw [ea]; exact Int32.le_refl _)]
    have e : (s + 1) * L.2.1 = s * L.2.1 + a := by rw [ea, Nat.add_mul, Nat.one_mul]
    exact q r c H I1 J1 (by rw [e]; exact b2) (by rw [e]; exact b3)
  · have ha : a < L.2.1 := by omega
    have hsr : s < r := by
      by_cases s0 : s = 0
      · omega
      · refine (b2.2.2 s (by omega) hs).mpr ?_
        have := (ps_lt h hp (show 1 ≤ s by omega) hs).2
        omega
    rw [if_neg (by rw [leNN (by omega) (by omega)]; omega), vpN (by omega), nI_clamp (by omega), c4 s hsr, num_4 (by omega), forall_eq]
    refine ⟨by omega, ?_⟩
    -- sign a makes no access word
    have miss : ld L s a ≠ some r → f_Suite_gatherHeads_b104 (nI r) (nI a) (lN (num (ac L s ++ [a]))) (f_Suite_gatherHeads_L45 (nI s) K f) I1 J1 := fun e => by
      obtain ⟨R', hb⟩ := ps_miss h hp hs ha b2 e
      have h3 : aN L * L.2.1 ≤ aN L * 3 := Nat.mul_le_mul_left _ hk
      have hc13 : c + 1 ≤ 13 := by omega
      have hm13 : (c + 1) * (mds d L.2.1).length ≤ 13 * 13 := Nat.mul_le_mul hc13 n2
      have em : (c + 1) * (mds d L.2.1).length = c * (mds d L.2.1).length + (mds d L.2.1).length := by rw [Nat.add_mul, Nat.one_mul]
      unfold f_Suite_gatherHeads_b104
      refine s_addHds (hM.kp (c1.2.2 34 (by decide) (by decide))) (by rw [c1.2.1 2 (by decide)]; exact m2) hmo (by omega) n2 c2 c3 (fun I2 J2 g1 g2 g3 => ?_)
      unfold f_Suite_gatherHeads_b110
      intro t et
      rw [et, nI_1 a]
      refine ih (a + 1) (r, c + 1, H ++ (mds d L.2.1).map (fun m => ac L s ++ [a] ++ m)) I2 J2 ⟨by omega, R', ⟨⟨fun w hw => ?_, fun u hu => List.mem_append_left _ (i2 u hu), fun u b hu hb' hlt => ?_⟩, ?_, g2, g3, fun t ht => ?_, ?_, hc13, ?_⟩⟩ (by omega)
      · rcases List.mem_append.mp hw with hw | hw
        · exact i1 w hw
        · obtain ⟨m, hm, rfl⟩ := List.mem_map.mp hw
          exact ⟨ac L s ++ [a], m, ⟨s, hs, Or.inr ⟨a, ha, rfl⟩⟩, hm, rfl⟩
      · by_cases e2 : u * L.2.1 + b < s * L.2.1 + a
        · rcases i3 u b hu hb' e2 with hx | hx
          · exact Or.inl hx
          · exact Or.inr (fun m hm => List.mem_append_left _ (hx m hm))
        · obtain ⟨rfl, rfl⟩ := lex2 hb' ha (show u * L.2.1 + b = s * L.2.1 + a by omega)
          exact Or.inr (fun m hm => List.mem_append_right _ (List.mem_map.mpr ⟨m, hm, rfl⟩))
      · exact c1.tr ⟨g1.1, g1.2.1, fun i a b => g1.2.2 i b b⟩
      · show J2 32 t = _
        rw [g1.2.2 32 (by decide) (by decide)]; exact c4 t ht
      · show (H ++ (mds d L.2.1).map (fun m => ac L s ++ [a] ++ m)).length = _
        rw [List.length_append, List.length_map, em]; omega
      · show c + 1 + (r - 1) = _
        omega
    by_cases h6 : 6 ≤ r
    · rw [if_pos (by rw [l6, leNN (by decide) (by omega)]; exact h6)]
      refine miss (fun e => ?_)
      have := (ld_lt hv e).1
      omega
    · rw [if_neg (by rw [l6, leNN (by decide) (by omega)]; exact h6), s_lead hL1 hv (by omega) (by omega)]
      by_cases e : ld L s a = some r
      · obtain ⟨k1, k2, k3⟩ := ps_hit h hp hs ha b2 e
        rw [e, if_pos (show enO (some r) = nI r from rfl), vpN (by omega), nI_clamp (by omega), nI_1]
        refine ⟨by omega, fun J2 e2 t et => ?_⟩
        rw [et]
        unfold f_Suite_gatherHeads_b110
        intro t' et'
        rw [et', nI_1 a]
        have m32 : ∀ j, J2 32 j = if j = r then lN (num (ac L s ++ [a])) else J1 32 j := fun j => by rw [e2, sJ_s, updL_at]
        refine ih (a + 1) (r + 1, c, H) I1 J2 ⟨by omega, k3, ⟨⟨i1, i2, fun u b hu hb' hlt => ?_⟩, ?_, c2, c3.kp (by rw [e2, sJ_n _ _ (by decide)]), fun t ht => ?_, c5, c6, ?_⟩⟩ (by omega)
        · by_cases e3 : u * L.2.1 + b < s * L.2.1 + a
          · exact i3 u b hu hb' e3
          · obtain ⟨rfl, rfl⟩ := lex2 hb' ha (show u * L.2.1 + b = s * L.2.1 + a by omega)
            exact Or.inl ⟨r, k2, k1⟩
        · exact c1.tr ⟨fun _ _ => rfl, fun _ _ => rfl, fun i a b => by rw [e2, sJ_n _ _ a]⟩
        · rw [m32]
          by_cases et2 : t = r
          · rw [if_pos et2, et2, k1]
          · rw [if_neg et2]; exact c4 t (by have : t < r + 1 := ht; omega)
        · show c + (r + 1 - 1) = _
          omega
      · rw [if_neg (fun hh => e ?_)]
        · exact miss e
        · cases hl : ld L s a with
          | none =>
            rw [hl] at hh
            exact absurd (show (-1 : Int32) = nI r from hh) (lm1' (by omega))
          | some t =>
            rw [hl] at hh
            have ht := (ld_lt hv hl).1
            have hh' : nI t = nI r := hh
            rw [eqNN (by omega) (by omega)] at hh'
            rw [hh']
theorem s_heads {L : AM} {d : Nat} {I : MI} {J : MJ} {Q : MI → MJ → Prop} (h : GoodL L) (hd : d ≤ 2) (hn : aN L ≤ 6) (hk : L.2.1 ≤ 3) (hL : RepC I 27 L) (hM : WdA J 34 (mds d L.2.1)) (m2 : I 26 2 = nI (mds d L.2.1).length) (q : ∀ H I' J', (∀ w, w ∈ H ↔ isHd L d w) → H.length ≤ 175 → GfS I I' J J' 1 32 33 → I' 26 1 = nI H.length → WdA J' 33 H → Q I' J') : f_Suite_gatherHeads I J Q := by
  have hv := h.1.1
  have hk1 := hv.2.1
  obtain ⟨n1, n2, n3⟩ := mds_len hd hk1 hk
  obtain ⟨p, hp⟩ := ps_ex h
  unfold f_Suite_gatherHeads
  intro I1 f1
  refine ⟨vp0 (by decide), fun J1 e1 => ?_⟩
  have st : GfS I I1 J J1 1 32 33 := ⟨fun j hj => by rw [f1, sI_n _ _ hj], fun j hj => by rw [f1, sI_s, pk_un hj], fun j hj _ => by rw [e1, sJ_n _ _ hj]⟩
  refine lp4 (fun f (s : Nat) (x : Nat × Nat × List (List Nat)) (I2 : MI) (J2 : MJ) => f_Suite_gatherHeads_L16 _ f (nI x.1) (nI s) I2 J2) (fun s x I2 J2 => s ≤ aN L ∧ psR L p x.1 (s * L.2.1) ∧ hdC L d I J x.1 x.2.1 s (s * L.2.1) x.2.2 I2 J2) (fun s _ _ _ => aN L - s) ?_ 0 (1, 0, []) I1 J1 ⟨Nat.zero_le _, by rw [Nat.zero_mul]; exact ps_0 h, ⟨(fun w hw => by cases hw), (fun s hs => absurd hs (Nat.not_lt_zero _)), (fun s a _ _ hlt => by rw [Nat.zero_mul] at hlt; exact absurd hlt (Nat.not_lt_zero _))⟩, st, by rw [f1, sI_s, pk_us]; rfl, WdA.nil, ?_, ?_, by decide, ?_⟩
  · rintro f s ⟨r, c, H⟩ I2 J2 ⟨b1, b2, b3⟩ ih
    simp only at b2 b3
    obtain ⟨⟨i1, i2, i3⟩, c1, c2, c3, c4, c5, c6, c7⟩ := id b3
    have hcm : c * (mds d L.2.1).length ≤ 13 * 13 := Nat.mul_le_mul c6 n2
    show f_Suite_gatherHeads_L16 _ (f + 1) (nI r) (nI s) I2 J2
    unfold f_Suite_gatherHeads_L16
    have hL2 : RepC I2 27 L := hL.kp (fun i a b => c1.1 i (by omega))
    rw [hL2.2.1]
    by_cases es : s = aN L
    · rw [if_pos (by rw [es]; exact Int32.le_refl _)]
      refine q H I2 J2 (fun w => ⟨i1 w, fun hw => heads_all h hd (fun u hu => i2 u (by omega)) (fun u a hu ha => i3 u a hu ha ?_) hw⟩) (by omega) c1 c2 c3
      rw [es]
      have := lex1 (k := L.2.1) (a' := 0) ha hu
      omega
    · have hs : s < aN L := by omega
      have hsr := ps_row h hp hs b2
      rw [if_neg (by rw [leNN (by omega) (by omega)]; omega), if_neg (by rw [l6, leNN (by decide) (by omega)]; omega), vpN (by omega), nI_clamp (by omega), c4 s hsr]
      refine ⟨by omega, s_addHd (by omega) c2 c3 (fun I3 J3 g1 g2 g3 => ?_)⟩
      refine s_head_in (I0 := I) (J0 := J) (c0 := c) (H0 := H ++ [ac L s]) h hp hd hn hk hL hM m2 hs b2 ⟨⟨fun w hw => ?_, fun u hu => ?_, fun u a hu ha hlt => ?_⟩, ?_, g2, g3, fun t ht => ?_, ?_, c6, c7⟩ (fun r' c' H' I4 J4 k1 k2 => ?_)
      · rcases List.mem_append.mp hw with hw | hw
        · exact i1 w hw
        · rw [List.mem_singleton] at hw
          exact ⟨ac L s, [], ⟨s, hs, Or.inl rfl⟩, (mds_mem hd hk1).mpr ⟨Nat.zero_le _, fun a ha => by cases ha⟩, by rw [hw, List.append_nil]⟩
      · by_cases e : u = s
        · subst e; exact List.mem_append_right _ List.mem_cons_self
        · exact List.mem_append_left _ (i2 u (by omega))
      · rcases i3 u a hu ha hlt with hx | hx
        · exact Or.inl hx
        · exact Or.inr (fun m hm => List.mem_append_left _ (hx m hm))
      · exact c1.tr ⟨g1.1, g1.2.1, fun i a b => g1.2.2 i b b⟩
      · rw [g1.2.2 32 (by decide) (by decide)]; exact c4 t ht
      · rw [List.length_append, List.length_singleton]; omega
      · intro t et
        rw [et, nI_1 s]
        exact ih (s + 1) (r', c', H') I4 J4 ⟨by omega, k1, k2⟩ (by omega)
  · intro t ht
    have e : t = 0 := by have : t < 1 := ht; omega
    subst e
    rw [e1, sJ_s, ac_0 h]
    exact pk_uLs
  · show ([] : List (List Nat)).length = 0 + 0 * _
    rw [Nat.zero_mul]; rfl
  · show 0 + (1 - 1) = 0 * _
    rw [Nat.zero_mul]
/-! last parts: there are no more of them than STATES -/
theorem nd_snoc {S : List (List Nat)} {w : List Nat} (h : S.Nodup) (hw : w ∉ S) : (S ++ [w]).Nodup := by
  rw [List.nodup_append]
  refine ⟨h, by simp, fun a ha b hb => ?_⟩
  rw [List.mem_singleton] at hb
  intro e
  rw [e, hb] at ha
  exact hw ha
theorem fu_L2 {L : AM} (h : GoodL L) {s t : Nat} (hst : s < t) (ht : t < aN L) {w : List Nat} (e : fuW L L (some (s, 0)) (some (t, 0)) = some w) : wOk w ∧ fuP L L (some (s, 0)) (some (t, 0)) w ∧ ∀ v : List Nat, (∀ a ∈ v, a < 4) → num v < num w → ¬ fuP L L (some (s, 0)) (some (t, 0)) v := by
  obtain ⟨v, v1, v2⟩ := h.2.2.2 s t hst ht
  have hv := h.1.1
  have h3 := h.1.n3
  have h14 := hv.2.2.2.2.1
  have hne : ¬ eqN (ld L) (anS L) 4 s t := fun hh => v2 (by
    have := hh v v1
    rw [ansN_ld hv h3, ansN_ld hv h3] at this
    exact this)
  obtain ⟨u, u1, u2, u3⟩ := moore (n := aN L) (fun i hi => anS_8 hv hi) (fun i a j hi ha hj => (ld_lt hv hj).1) (show s < aN L by omega) ht hne
  rw [ansN_ld hv h3, ansN_ld hv h3] at u3
  have hu : fuP L L (some (s, 0)) (some (t, 0)) u := by rw [ansF_o, ansF_o] at u3; exact u3
  unfold fuW at e
  cases hl : leastN (WdP (fuP L L (some (s, 0)) (some (t, 0)))) with
  | none => exact absurd ⟨u, u2, rfl, hu⟩ (leastN_inv0 hl (num u))
  | some n =>
    obtain ⟨x, x1, x2, x3, x4⟩ := least_len hl u2 hu
    subst x2
    have ok : wOk x := ⟨by omega, x1⟩
    rw [hl] at e
    have e' : decW (lN (num x)) = some w := e
    rw [decW_ok ok] at e'
    cases e'
    exact ⟨ok, x3, fun y y1 y2 y3 => (leastN_inv hl).2 (num y) y2 ⟨y, y1, rfl, y3⟩⟩
theorem fu_mk {L : AM} {x y : Option (Nat × Nat)} {w : List Nat} (ok : wOk w) (hp : fuP L L x y w) (hm : ∀ v : List Nat, (∀ a ∈ v, a < 4) → num v < num w → ¬ fuP L L x y v) : fuW L L x y = some w := by
  unfold fuW
  rw [leastN_s (P := WdP (fuP L L x y)) ⟨w, ok.2, rfl, hp⟩ (fun m hmw hh => by
    obtain ⟨v, v1, v2, v3⟩ := hh
    subst v2
    exact hm v v1 hmw v3)]
  exact decW_ok ok
/-- two STATES that a third is unlike at other words are unlike at the first of these -/
theorem fu_tri {L : AM} (h : GoodL L) {s s' t : Nat} {w w' : List Nat} (hs : s < t) (hs' : s' < t) (ht : t < aN L) (e : fuW L L (some (s, 0)) (some (t, 0)) = some w) (e' : fuW L L (some (s', 0)) (some (t, 0)) = some w') (hlt : num w < num w') : fuW L L (some (s, 0)) (some (s', 0)) = some w ∧ fuW L L (some (s', 0)) (some (s, 0)) = some w := by
  obtain ⟨k1, k2, k3⟩ := fu_L2 h hs ht e
  obtain ⟨r1, r2, r3⟩ := fu_L2 h hs' ht e'
  have a1 := Classical.not_not.mp (r3 w k1.2 hlt)
  have a2 : ∀ v : List Nat, (∀ a ∈ v, a < 4) → num v < num w → anO L ((some (s, 0)).bind (fun q => run L q v)) = anO L ((some (s', 0)).bind (fun q => run L q v)) := fun v v1 v2 => (Classical.not_not.mp (k3 v v1 v2)).trans (Classical.not_not.mp (r3 v v1 (by omega))).symm
  exact ⟨fu_mk k1 (fun hh => k2 (hh.trans a1)) (fun v v1 v2 hh => hh (a2 v v1 v2)), fu_mk k1 (fun hh => k2 (hh.symm.trans a1)) (fun v v1 v2 hh => hh (a2 v v1 v2).symm)⟩
theorem la_len {L : AM} (h : GoodL L) {W : List (List Nat)} (nd : W.Nodup) (hW : ∀ w ∈ W, isLa L w) : W.length ≤ aN L := by
  have n1 := h.1.1.n1
  have hex : ∀ i : Nat, ∃ t : Nat, i < W.length → ∃ w, W[i]? = some w ∧ t < aN L ∧ ((w = [] ∧ t = 0) ∨ ∃ s, s < t ∧ fuW L L (some (s, 0)) (some (t, 0)) = some w ∧ ∀ t', t' < t → ∀ s', s' < t' → fuW L L (some (s', 0)) (some (t', 0)) ≠ some w) := fun i => by
    by_cases hi : i < W.length
    · have hg := List.getElem?_eq_getElem hi
      have hin := List.mem_of_getElem? hg
      generalize W[i] = w at hg hin
      rcases hW w hin with e | ⟨s, t, k1, k2, k3⟩
      · exact ⟨0, fun _ => ⟨w, hg, by omega, Or.inl ⟨e, rfl⟩⟩⟩
      · obtain ⟨t0, ⟨s0, a1, a2, a3⟩, hm⟩ := pk_least (fun t => ∃ s, s < t ∧ t < aN L ∧ fuW L L (some (s, 0)) (some (t, 0)) = some w) ⟨t, s, k1, k2, k3⟩
        exact ⟨t0, fun _ => ⟨w, hg, a2, Or.inr ⟨s0, a1, a3, fun t' b1 s' b2 b3 => hm t' b1 ⟨s', b2, by omega, b3⟩⟩⟩⟩
    · exact ⟨0, fun hh => absurd hh hi⟩
  obtain ⟨g, hg⟩ := Classical.axiomOfChoice hex
  refine php (aN L) W.length g (fun i hi => ?_) (fun i j hi hj e => ?_)
  · obtain ⟨w, _, k, _⟩ := hg i hi
    exact k
  · obtain ⟨w, w1, w2, w3⟩ := hg i hi
    obtain ⟨v, v1, v2, v3⟩ := hg j hj
    have same : w = v → i = j := fun ee => by
      subst ee
      exact (List.getElem?_inj hi nd).mp (w1.trans v1.symm)
    rw [← e] at v2 v3
    rcases w3 with ⟨c1, c2⟩ | ⟨s, c1, c2, c3⟩
    · rcases v3 with ⟨d1, d2⟩ | ⟨s', d1, d2, d3⟩
      · exact same (c1.trans d1.symm)
      · omega
    · rcases v3 with ⟨d1, d2⟩ | ⟨s', d1, d2, d3⟩
      · omega
      · by_cases ew : w = v
        · exact same ew
        · exfalso
          have kw := (fu_L2 h c1 w2 c2).1
          have kv := (fu_L2 h d1 w2 d2).1
          have hss : s ≠ s' := fun ee => by
            subst ee
            rw [c2] at d2
            cases d2
            exact ew rfl
          rcases Nat.lt_trichotomy (num w) (num v) with c | c | c
          · obtain ⟨m1, m2⟩ := fu_tri h c1 d1 w2 c2 d2 c
            rcases Nat.lt_or_ge s s' with hl | hl
            · exact c3 s' d1 s hl m1
            · exact c3 s c1 s' (by omega) m2
          · exact ew (num_inj kw.2 kv.2 c)
          · obtain ⟨m1, m2⟩ := fu_tri h d1 c1 w2 d2 c2 c
            rcases Nat.lt_or_ge s s' with hl | hl
            · exact d3 s' d1 s hl m2
            · exact d3 s c1 s' (by omega) m1
/-! last parts -/
theorem s_addLa {W : List (List Nat)} {w : List Nat} {I : MI} {J : MJ} {Q : MI → MJ → Prop} (h6 : W.length ≤ 6) (hl : w ∉ W → W.length < 6) (h1 : I 26 3 = nI W.length) (hW : WdA J 35 W) (ho : ∀ v ∈ W, wOk v) (hw : wOk w) (q0 : w ∈ W → Q I J) (q1 : w ∉ W → ∀ I' J', GfS I I' J J' 3 35 35 → I' 26 3 = nI (W ++ [w]).length → WdA J' 35 (W ++ [w]) → Q I' J') : f_Suite_addLast (lN (num w)) I J Q := by
  unfold f_Suite_addLast
  refine lp1 (fun f (i : Nat) => f_Suite_addLast_L2 (lN (num w)) _ _ f (nI i) I J) (fun i => i ≤ W.length ∧ ∀ (j : Nat) (v : List Nat), j < i → W[j]? = some v → v ≠ w) (fun i => W.length - i) ?_ 0 ⟨Nat.zero_le _, fun j v hj => absurd hj (Nat.not_lt_zero _)⟩
  rintro f i ⟨b1, b2⟩ ih
  unfold f_Suite_addLast_L2
  rw [h1]
  by_cases ei : i = W.length
  · rw [if_pos (by rw [ei]; exact Int32.le_refl _)]
    have hno : w ∉ W := fun hin => by
      obtain ⟨j, hj⟩ := List.mem_iff_getElem?.mp hin
      exact b2 j w (by have := (List.getElem?_eq_some_iff.mp hj).1; omega) hj rfl
    have hl' := hl hno
    rw [if_neg (by rw [l6, leNN (by decide) (by omega)]; omega), vpN (by omega), nI_clamp (by omega), nI_1]
    refine ⟨hl', fun J1 e1 I1 f1 => q1 hno I1 J1 ⟨fun j hj => by rw [f1, sI_n _ _ hj], fun j hj => by rw [f1, sI_s, pk_un hj], fun j hj _ => by rw [e1, sJ_n _ _ hj]⟩ ?_ (hW.add e1)⟩
    rw [f1, sI_s, pk_us, List.length_append]
    rfl
  · have hg := List.getElem?_eq_getElem (show i < W.length by omega)
    generalize W[i] = v at hg
    rw [if_neg (by rw [leNN (by omega) (by omega)]; omega), vpN (by omega), nI_clamp (by omega), hW i v hg]
    refine ⟨by omega, ?_⟩
    by_cases e : v = w
    · subst e
      rw [if_pos rfl]
      exact q0 (List.mem_of_getElem? hg)
    · rw [if_neg (fun hh => e (wd_inj (ho v (List.mem_of_getElem? hg)) hw hh)), nI_1, forall_eq]
      refine ih (i + 1) ⟨by omega, fun j u hj hu => ?_⟩ (by omega)
      by_cases c : j = i
      · subst c; rw [hg] at hu; cases hu; exact e
      · exact b2 j u (by omega) hu
def tri : Nat → Nat
  | 0 => 0
  | t + 1 => tri t + t
/-- what gathering the last parts changes -/
def LaF (I I' : MI) (J J' : MJ) : Prop := (∀ i, (i < 2 ∨ 12 ≤ i) → i ≠ 26 → I' i = I i) ∧ (∀ j, j ≠ 3 → I' 26 j = I 26 j) ∧ ∀ i, i ≠ 6 → i ≠ 35 → J' i = J i
theorem LaF.tr {I I' I'' : MI} {J J' J'' : MJ} (h : LaF I I' J J') (h' : LaF I' I'' J' J'') : LaF I I'' J J'' := ⟨fun i a b => (h'.1 i a b).trans (h.1 i a b), fun i hi => (h'.2.1 i hi).trans (h.2.1 i hi), fun i a b => (h'.2.2 i a b).trans (h.2.2 i a b)⟩
theorem LaF.rf {I : MI} {J : MJ} : LaF I I J J := ⟨fun _ _ _ => rfl, fun _ _ => rfl, fun _ _ _ => rfl⟩
/-- the last parts of the pairs before (s, t) -/
def laI (L : AM) (W : List (List Nat)) (t s : Nat) : Prop := (∀ w ∈ W, isLa L w) ∧ [] ∈ W ∧ (∀ s' t' w, s' < t' → t' < aN L → (t' < t ∨ (t' = t ∧ s' < s)) → fuW L L (some (s', 0)) (some (t', 0)) = some w → w ∈ W) ∧ W.length ≤ 1 + tri t + s
theorem s_last_in {L : AM} {t : Nat} {W0 : List (List Nat)} {I0 I : MI} {J0 J : MJ} {K : MI → MJ → Prop} (h : GoodL L) (hn : aN L ≤ 6) (hL : RepC I0 27 L) (h1 : 1 ≤ t) (ht : t < aN L) (hW : laI L W0 t 0) (hd : W0.Nodup) (hF : LaF I0 I J0 J) (hH : HaS I) (c1 : I 26 3 = nI W0.length) (c2 : WdA J 35 W0) (q : ∀ W I' J', laI L W (t + 1) 0 → W.Nodup → LaF I0 I' J0 J' → HaS I' → I' 26 3 = nI W.length → WdA J' 35 W → K I' J') : ∃ n, f_Suite_gatherLasts_L27 (nI t) K n 0 I J := by
  have hv := h.1.1
  refine lp4 (fun f (s : Nat) (W : List (List Nat)) (I1 : MI) (J1 : MJ) => f_Suite_gatherLasts_L27 (nI t) K f (nI s) I1 J1) (fun s W I1 J1 => s ≤ t ∧ laI L W t s ∧ W.Nodup ∧ LaF I0 I1 J0 J1 ∧ HaS I1 ∧ I1 26 3 = nI W.length ∧ WdA J1 35 W) (fun s _ _ _ => t - s) ?_ 0 W0 I J ⟨Nat.zero_le _, hW, hd, hF, hH, c1, c2⟩
  rintro f s W I1 J1 ⟨b1, b2, nd, b3, b4, b5, b6⟩ ih
  obtain ⟨i1, i2, i3, i4⟩ := id b2
  unfold f_Suite_gatherLasts_L27
  by_cases es : s = t
  · rw [if_pos (by rw [es]; exact Int32.le_refl _)]
    refine q W I1 J1 ⟨i1, i2, fun s' t' w a b c d => i3 s' t' w a b ?_ d, ?_⟩ nd b3 b4 b5 b6
    · rcases c with c | c
      · by_cases e : t' = t
        · exact Or.inr ⟨e, by omega⟩
        · exact Or.inl (by omega)
      · omega
    · have e : tri (t + 1) = tri t + t := rfl
      omega
  · have hst : s < t := by omega
    obtain ⟨w, w1, w2, w3, w4⟩ := fu_L h hst ht
    have hln := la_len h nd i1
    rw [if_neg (by rw [leNN (by omega) (by omega)]; omega), l4, pk_mul, pk_mul]
    have hL1 : RepC I1 27 L := hL.kp (fun i a b => b3.1 i (by omega) (by omega))
    have ok : ∀ u, u < aN L → okSo L (some (u, 0)) := fun u hu z hz => by cases hz; exact ⟨hu, (show 0 < 4 by decide), fun _ => rfl⟩
    refine c_unlike (x := some (s, 0)) (y := some (t, 0)) (by decide) (by decide) hL1 hL1 hv hv (SpS.firm hv h.1.n3) (SpS.firm hv h.1.n3) (ok s (by omega)) (ok t ht) b4 (fun I2 J2 e2 j2 H2 => ?_)
    rw [w4]
    have fr2 : LaF I0 I2 J0 J2 := b3.tr ⟨fun i a b => e2 i a, fun j hj => by rw [e2 26 (by decide)], fun i a b => j2 i a⟩
    have i1' : ∀ v ∈ W ++ [w], isLa L v := fun v hv' => by
      rcases List.mem_append.mp hv' with hv' | hv'
      · exact i1 v hv'
      · rw [List.mem_singleton] at hv'
        rw [hv']
        exact Or.inr ⟨s, t, hst, ht, w1⟩
    refine s_addLa (by omega) (fun hno => by have := la_len h (nd_snoc nd hno) i1'; rw [List.length_append, List.length_singleton] at this; omega) (by rw [e2 26 (by decide)]; exact b5) (b6.kp (j2 35 (by decide))) (fun v hv' => ?_) ⟨by omega, w3⟩ (fun hin => ?_) (fun hno I3 J3 g1 g2 g3 => ?_)
    · obtain ⟨k1, k2⟩ := isLa_ok h hn (i1 v hv')
      exact ⟨by omega, k2⟩
    · intro u eu
      rw [eu, nI_1 s]
      refine ih (s + 1) W I2 J2 ⟨by omega, ⟨i1, i2, fun s' t' v a b c d => ?_, by omega⟩, nd, fr2, H2, by rw [e2 26 (by decide)]; exact b5, b6.kp (j2 35 (by decide))⟩ (by omega)
      rcases c with c | ⟨rfl, c⟩
      · exact i3 s' t' v a b (Or.inl c) d
      · by_cases e : s' = s
        · subst e; rw [w1] at d; cases d; exact hin
        · exact i3 s' t' v a b (Or.inr ⟨rfl, by omega⟩) d
    · intro u eu
      rw [eu, nI_1 s]
      refine ih (s + 1) (W ++ [w]) I3 J3 ⟨by omega, ⟨i1', List.mem_append_left _ i2, fun s' t' v a b c d => ?_, ?_⟩, nd_snoc nd hno, fr2.tr ⟨fun i a b => g1.1 i b, g1.2.1, fun i a b => g1.2.2 i b b⟩, ?_, g2, g3⟩ (by omega)
      · rcases c with c | ⟨rfl, c⟩
        · exact List.mem_append_left _ (i3 s' t' v a b (Or.inl c) d)
        · by_cases e : s' = s
          · subst e; rw [w1] at d; cases d; exact List.mem_append_right _ List.mem_cons_self
          · exact List.mem_append_left _ (i3 s' t' v a b (Or.inr ⟨rfl, by omega⟩) d)
      · rw [List.length_append, List.length_singleton]; omega
      · exact H2.kp ⟨by rw [g1.1 2 (by decide)], g1.1 4 (by decide), g1.1 5 (by decide)⟩
theorem s_lasts {L : AM} {I : MI} {J : MJ} {Q : MI → MJ → Prop} (h : GoodL L) (hn : aN L ≤ 6) (hL : RepC I 27 L) (hH : HaS I) (q : ∀ W I' J', (∀ w, w ∈ W ↔ isLa L w) → W.length ≤ 6 → LaF I I' J J' → HaS I' → I' 26 3 = nI W.length → WdA J' 35 W → Q I' J') : f_Suite_gatherLasts I J Q := by
  unfold f_Suite_gatherLasts
  refine ⟨vp0 (by decide), fun J1 e1 I1 f1 => ?_⟩
  have fr1 : LaF I I1 J J1 := ⟨fun i a b => by rw [f1, sI_n _ _ b], fun j hj => by rw [f1, sI_s, pk_un hj], fun i a b => by rw [e1, sJ_n _ _ b]⟩
  have n1 := h.1.1.n1
  refine lp4 (fun f (t : Nat) (W : List (List Nat)) (I2 : MI) (J2 : MJ) => f_Suite_gatherLasts_L14 _ f (nI t) I2 J2) (fun t W I2 J2 => 1 ≤ t ∧ t ≤ aN L ∧ laI L W t 0 ∧ W.Nodup ∧ LaF I I2 J J2 ∧ HaS I2 ∧ I2 26 3 = nI W.length ∧ WdA J2 35 W) (fun t _ _ _ => aN L - t) ?_ 1 [[]] I1 J1 ⟨Nat.le_refl _, by omega, ⟨fun w hw => ?_, List.mem_cons_self, fun s' t' w a b c d => by omega, by decide⟩, (by simp), fr1, hH.kp ⟨by rw [f1, sI_n _ _ (by decide)], by rw [f1, sI_n _ _ (by decide)], by rw [f1, sI_n _ _ (by decide)]⟩, by rw [f1, sI_s, pk_us]; rfl, ?_⟩
  · rintro f t W I2 J2 ⟨b0, b1, b2, nd, b3, b4, b5, b6⟩ ih
    obtain ⟨i1, i2, i3, i4⟩ := id b2
    unfold f_Suite_gatherLasts_L14
    have hL2 : RepC I2 27 L := hL.kp (fun i a b => b3.1 i (by omega) (by omega))
    rw [hL2.2.1]
    by_cases et : t = aN L
    · rw [if_pos (by rw [et]; exact Int32.le_refl _)]
      refine q W I2 J2 (fun w => ⟨i1 w, fun hw => ?_⟩) ?_ b3 b4 b5 b6
      · rcases hw with rfl | ⟨s', t', a, b, c⟩
        · exact i2
        · exact i3 s' t' w a b (Or.inl (by omega)) c
      · have := la_len h nd i1
        omega
    · rw [if_neg (by rw [leNN (by omega) (by omega)]; omega)]
      refine s_last_in h hn hL b0 (by omega) b2 nd b3 b4 b5 b6 (fun W' I3 J3 g1 gd g2 g3 g4 g5 => ?_)
      intro u eu
      rw [eu, nI_1 t]
      exact ih (t + 1) W' I3 J3 ⟨by omega, by omega, g1, gd, g2, g3, g4, g5⟩ (by omega)
  · rw [List.mem_singleton] at hw
    exact Or.inl hw
  · intro i w hw
    have hi := (List.getElem?_eq_some_iff.mp hw).1
    have e : i = 0 := by rw [List.length_singleton] at hi; omega
    subst e
    have : w = [] := by simpa using hw.symm
    rw [this, e1, sJ_s]
    exact pk_uLs
