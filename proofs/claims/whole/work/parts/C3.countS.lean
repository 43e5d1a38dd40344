/-! SUITE: counting, the class -/
def hz (e : Nat) (x : Int64) : Nat := ((((x * (-7046029254386353131)).toUInt64 >>> ((40 : Int32).toInt64.toUInt64 &&& Int64.toUInt64 63)).toInt64).toInt32).toBitVec.toNat % 2 ^ e
def RmI (J : MJ) (e : Nat) (S : List (List Nat)) : Prop := (∀ w ∈ S, wOk w) ∧ S.Nodup ∧ (∀ q, q < 2 ^ e → J 36 q = 0 ∨ ∃ w ∈ S, J 36 q = lN (num w)) ∧ (∀ q q', q < 2 ^ e → q' < 2 ^ e → J 36 q ≠ 0 → J 36 q = J 36 q' → q = q') ∧ ∀ w ∈ S, ∃ d, d < 2 ^ e ∧ J 36 ((hz e (lN (num w)) + d) % 2 ^ e) = lN (num w) ∧ ∀ t, t < d → J 36 ((hz e (lN (num w)) + t) % 2 ^ e) ≠ 0
theorem num_ne0 {w : List Nat} (h : wOk w) : lN (num w) ≠ 0 := fun e => wd_pos h (by rw [e]; exact Int64.le_refl _)
theorem RmI.full {J : MJ} {e : Nat} {S : List (List Nat)} (h : RmI J e S) (hf : ∀ q, q < 2 ^ e → J 36 q ≠ 0) : 2 ^ e ≤ S.length := by
  obtain ⟨h1, h2, h3, h4, h5⟩ := h
  have : ∀ q, ∃ i, q < 2 ^ e → ∃ w, S[i]? = some w ∧ J 36 q = lN (num w) := fun q => by
    by_cases hq : q < 2 ^ e
    · rcases h3 q hq with h0 | ⟨w, hw, e1⟩
      · exact absurd h0 (hf q hq)
      · obtain ⟨i, hi⟩ := List.mem_iff_getElem?.mp hw
        exact ⟨i, fun _ => ⟨w, hi, e1⟩⟩
    · exact ⟨0, fun hh => absurd hh hq⟩
  obtain ⟨g, hg⟩ := Classical.axiomOfChoice this
  refine php S.length (2 ^ e) g (fun q hq => ?_) (fun q q' hq hq' ee => ?_)
  · obtain ⟨w, w1, _⟩ := hg q hq
    exact (List.getElem?_eq_some_iff.mp w1).1
  · obtain ⟨w, w1, w2⟩ := hg q hq
    obtain ⟨v, v1, v2⟩ := hg q' hq'
    rw [ee, v1] at w1
    cases w1
    exact h4 q q' hq hq' (hf q hq) (by rw [w2, v2])
theorem s_isNew {e : Nat} {S : List (List Nat)} {w : List Nat} {I : MI} {J : MJ} {Q : Int32 → MI → MJ → Prop} (he : e ≤ 11) (hR : RmI J e S) (hS : S.length < 2 ^ e) (hw : wOk w) (q0 : w ∈ S → Q 0 I J) (q1 : w ∉ S → ∀ J', (∀ i, i ≠ 36 → J' i = J i) → RmI J' e (S ++ [w]) → Q 1 I J') : f_Suite_isNew (lN (num w)) (nI (2 ^ e)) I J Q := by
  obtain ⟨h1, h2, h3, h4, h5⟩ := id hR
  have hN : 2 ^ e ≤ 2 ^ 11 := Nat.pow_le_pow_right (by decide) he
  have h12 : (2 : Nat) ^ 11 = 2048 := by decide
  have hN1 : 1 ≤ 2 ^ e := Nat.one_le_pow _ _ (by decide)
  have hm : (nI (2 ^ e) - 1).toBitVec.toNat = 2 ^ e - 1 := by rw [l1, pk_sub hN1]; exact pk_tn (by omega)
  unfold f_Suite_isNew
  rw [pk_and _ e hm, forall_eq]
  have h00 : ((((lN (num w) * (-7046029254386353131)).toUInt64 >>> ((40 : Int32).toInt64.toUInt64 &&& Int64.toUInt64 63)).toInt64).toInt32).toBitVec.toNat % 2 ^ e = (hz e (lN (num w)) + 0) % 2 ^ e := by
    rw [Nat.add_zero]
    unfold hz
    rw [Nat.mod_mod]
  rw [h00]
  have hh : hz e (lN (num w)) < 2 ^ e := by unfold hz; exact Nat.mod_lt _ (by omega)
  generalize hh0 : hz e (lN (num w)) = h0 at hh ⊢
  refine lp1 (fun f (t : Nat) => f_Suite_isNew_L18 (lN (num w)) (nI (2 ^ e)) _ _ _ f (nI ((h0 + t) % 2 ^ e)) (nI t) I J) (fun t => t ≤ 2 ^ e ∧ ∀ d, d < t → J 36 ((h0 + d) % 2 ^ e) ≠ 0 ∧ J 36 ((h0 + d) % 2 ^ e) ≠ lN (num w)) (fun t => 2 ^ e - t) ?_ 0 ⟨Nat.zero_le _, fun d hd => absurd hd (Nat.not_lt_zero _)⟩
  rintro f t ⟨b1, b2⟩ ih
  unfold f_Suite_isNew_L18
  by_cases et : t = 2 ^ e
  · exfalso
    have := hR.full (fun q hq => by
      have := (b2 ((q + 2 ^ e - h0) % 2 ^ e) (by rw [et]; exact Nat.mod_lt _ (by omega))).1
      rw [Nat.add_mod_mod, show h0 + (q + 2 ^ e - h0) = q + 2 ^ e by omega, Nat.add_mod_right, Nat.mod_eq_of_lt hq] at this
      exact this)
    omega
  · have hq : (h0 + t) % 2 ^ e < 2 ^ e := Nat.mod_lt _ (by omega)
    rw [if_neg (by rw [leNN (by omega) (by omega)]; omega), vpN (by omega), nI_clamp (by omega)]
    refine ⟨by omega, ?_⟩
    rcases h3 _ hq with z | ⟨v, hv, ev⟩
    · rw [if_pos z]
      have hno : w ∉ S := fun hin => by
        obtain ⟨d, d1, d2, d3⟩ := h5 w hin
        simp only [hh0] at d2 d3
        rcases Nat.lt_trichotomy d t with c | c | c
        · exact (b2 d c).2 d2
        · rw [c, z] at d2
          exact num_ne0 hw d2.symm
        · exact d3 t c z
      refine ⟨by omega, fun J1 e1 => q1 hno J1 (fun i hi => by rw [e1, sJ_n _ _ hi]) ?_⟩
      have m : ∀ q, J1 36 q = if q = (h0 + t) % 2 ^ e then lN (num w) else J 36 q := fun q => by rw [e1, sJ_s, updL_at]
      have hold : ∀ q, q < 2 ^ e → J 36 q ≠ lN (num w) := fun q hq' ee => by
        rcases h3 q hq' with z' | ⟨v, hv, ev⟩
        · rw [z'] at ee; exact num_ne0 hw ee.symm
        · rw [ev] at ee
          exact hno (by rw [← wd_inj (h1 v hv) hw ee]; exact hv)
      refine ⟨fun v hv => ?_, nd_snoc h2 hno, fun q hq' => ?_, fun q q' k1 k2 k3 k4 => ?_, fun v hv => ?_⟩
      · rcases List.mem_append.mp hv with hv | hv
        · exact h1 v hv
        · rw [List.mem_singleton] at hv; rw [hv]; exact hw
      · rw [m]
        by_cases c : q = (h0 + t) % 2 ^ e
        · rw [if_pos c]; exact Or.inr ⟨w, List.mem_append_right _ List.mem_cons_self, rfl⟩
        · rw [if_neg c]
          rcases h3 q hq' with z' | ⟨v, hv, ev⟩
          · exact Or.inl z'
          · exact Or.inr ⟨v, List.mem_append_left _ hv, ev⟩
      · rw [m, m] at k4
        rw [m] at k3
        by_cases c : q = (h0 + t) % 2 ^ e
        · by_cases c' : q' = (h0 + t) % 2 ^ e
          · rw [c, c']
          · rw [if_pos c, if_neg c'] at k4
            exact absurd k4.symm (hold q' k2)
        · rw [if_neg c] at k3 k4
          by_cases c' : q' = (h0 + t) % 2 ^ e
          · rw [if_pos c'] at k4
            exact absurd k4 (hold q k1)
          · rw [if_neg c'] at k4
            exact h4 q q' k1 k2 k3 k4
      · have hmono : ∀ q, J 36 q ≠ 0 → J1 36 q ≠ 0 := fun q hx => by
          rw [m]
          split
          · exact num_ne0 hw
          · exact hx
        rcases List.mem_append.mp hv with hv | hv
        · obtain ⟨d, d1, d2, d3⟩ := h5 v hv
          refine ⟨d, d1, ?_, fun t' ht' => hmono _ (d3 t' ht')⟩
          rw [m]
          by_cases c : (hz e (lN (num v)) + d) % 2 ^ e = (h0 + t) % 2 ^ e
          · exfalso
            rw [c, z] at d2
            exact num_ne0 (h1 v hv) d2.symm
          · rw [if_neg c]; exact d2
        · rw [List.mem_singleton] at hv
          subst hv
          refine ⟨t, by omega, ?_, fun t' ht' => ?_⟩
          · rw [hh0, m, if_pos rfl]
          · rw [hh0]; exact hmono _ (b2 t' ht').1
    · have hv0 : J 36 ((h0 + t) % 2 ^ e) ≠ 0 := by rw [ev]; exact num_ne0 (h1 v hv)
      rw [if_neg hv0]
      refine ⟨by omega, ?_⟩
      by_cases ew : v = w
      · subst ew
        rw [if_pos ev]
        exact q0 hv
      · have hne : J 36 ((h0 + t) % 2 ^ e) ≠ lN (num w) := fun ee => ew (wd_inj (h1 v hv) hw (by rw [← ev, ee]))
        rw [if_neg hne, nI_1, nI_1, pk_andN (by omega) e hm, forall_eq, forall_eq, Nat.mod_add_mod, Nat.add_assoc]
        refine ih (t + 1) ⟨by omega, fun d hd => ?_⟩ (by omega)
        by_cases c : d = t
        · subst c; exact ⟨hv0, hne⟩
        · exact b2 d (by omega)
/-! the room -/
theorem s_room {many : Nat} {I : MI} {J : MJ} {Q : Int32 → MI → MJ → Prop} (hm : many ≤ 1050) (q : ∀ e, e ≤ 11 → many ≤ 2 ^ e → Q (nI (2 ^ e)) I J) : f_Suite_roomFor (nI many) I J Q := by
  unfold f_Suite_roomFor
  refine lp1 (fun f (e : Nat) => f_Suite_roomFor_L3 (nI many) _ f (nI (2 ^ e)) I J) (fun e => 4 ≤ e ∧ e ≤ 11) (fun e => 11 - e) ?_ 4 ⟨Nat.le_refl _, by decide⟩
  rintro f e ⟨b1, b2⟩ ih
  have hN : 2 ^ e ≤ 2 ^ 11 := Nat.pow_le_pow_right (by decide) b2
  have h12 : (2 : Nat) ^ 11 = 2048 := by decide
  unfold f_Suite_roomFor_L3
  by_cases h : 2048 ≤ 2 ^ e
  · rw [if_pos (by rw [show (2048 : Int32) = nI 2048 from rfl, leNN (by decide) (by omega)]; exact h)]
    exact q e b2 (by omega)
  · rw [if_neg (by rw [show (2048 : Int32) = nI 2048 from rfl, leNN (by decide) (by omega)]; exact h), l2, pk_div (by omega) (by decide) (by decide), nI_add]
    by_cases h2 : many + many / 2 ≤ 2 ^ e
    · rw [if_pos (by rw [leNN (by omega) (by omega)]; exact h2)]
      exact q e b2 (by omega)
    · rw [if_neg (by rw [leNN (by omega) (by omega)]; exact h2), pk_mul, forall_eq, ← Nat.pow_succ]
      have : e ≠ 11 := fun ee => by rw [ee] at h; exact h (by decide)
      exact ih (e + 1) ⟨by omega, by omega⟩ (by omega)
theorem s_clear {e : Nat} {I : MI} {J : MJ} {K : MI → MJ → Prop} (he : e ≤ 11) (q : ∀ J', (∀ i, i ≠ 36 → J' i = J i) → RmI J' e [] → K I J') : ∃ n, f_Suite_countWords_L15 (nI (2 ^ e)) K n 0 I J := by
  have hN : 2 ^ e ≤ 2 ^ 11 := Nat.pow_le_pow_right (by decide) he
  have h12 : (2 : Nat) ^ 11 = 2048 := by decide
  refine lp2 (fun f (i : Nat) (J1 : MJ) => f_Suite_countWords_L15 (nI (2 ^ e)) K f (nI i) I J1) (fun i J1 => i ≤ 2 ^ e ∧ (∀ j, j ≠ 36 → J1 j = J j) ∧ ∀ j, j < i → J1 36 j = 0) (fun i _ => 2 ^ e - i) ?_ 0 J ⟨Nat.zero_le _, fun _ _ => rfl, fun j hj => absurd hj (Nat.not_lt_zero _)⟩
  rintro f i J1 ⟨b1, b2, b3⟩ ih
  unfold f_Suite_countWords_L15
  by_cases ei : i = 2 ^ e
  · rw [if_pos (by rw [ei]; exact Int32.le_refl _)]
    refine q J1 b2 ⟨(fun w hw => by cases hw), List.nodup_nil, fun q hq => Or.inl (b3 q (by omega)), fun q q' k1 _ k3 _ => absurd (b3 q (by omega)) k3, (fun w hw => by cases hw)⟩
  · rw [if_neg (by rw [leNN (by omega) (by omega)]; omega), vpN (by omega), nI_clamp (by omega)]
    refine ⟨by omega, fun J2 e2 t et => ?_⟩
    rw [et, nI_1 i]
    refine ih (i + 1) J2 ⟨by omega, fun j hj => by rw [e2, sJ_n _ _ hj, b2 j hj], fun j hj => ?_⟩ (by omega)
    rw [e2, sJ_s, updL_at]
    by_cases c : j = i
    · rw [if_pos c]
    · rw [if_neg c]; exact b3 j (by omega)
/-- the words counted before (i, j) -/
def wsI (H W S : List (List Nat)) (i j : Nat) : Prop := (∀ w ∈ S, ∃ f ∈ H, ∃ l ∈ W, w = f ++ l) ∧ (∀ (i' j' : Nat) (f l : List Nat), H[i']? = some f → W[j']? = some l → (i' < i ∨ (i' = i ∧ j' < j)) → f ++ l ∈ S) ∧ S.length ≤ i * W.length + j
theorem s_count_in {e i : Nat} {f : List Nat} {H W S0 : List (List Nat)} {I : MI} {J0 J : MJ} {K : Int32 → MI → MJ → Prop} (he : e ≤ 11) (hm : H.length * W.length ≤ 2 ^ e) (hH : H.length ≤ 175) (hW : W.length ≤ 6) (h1 : WdA J0 33 H) (h3 : I 26 3 = nI W.length) (h2 : WdA J0 35 W) (ho : ∀ v ∈ H, v.length ≤ 8 ∧ ∀ a ∈ v, a < 4) (ho2 : ∀ v ∈ W, v.length ≤ 5 ∧ ∀ a ∈ v, a < 4) (hf : H[i]? = some f) (hj : ∀ c, c ≠ 36 → J c = J0 c) (hR : RmI J e S0) (hC : wsI H W S0 i 0) (q : ∀ S J', (∀ c, c ≠ 36 → J' c = J0 c) → RmI J' e S → wsI H W S (i + 1) 0 → K (nI S.length) I J') : ∃ n, f_Suite_countWords_L48 (nI (2 ^ e)) (nI i) K n (nI S0.length) 0 I J := by
  have hN : 2 ^ e ≤ 2 ^ 11 := Nat.pow_le_pow_right (by decide) he
  have h12 : (2 : Nat) ^ 11 = 2048 := by decide
  have hi := (List.getElem?_eq_some_iff.mp hf).1
  have hfo := ho f (List.mem_of_getElem? hf)
  have hmul : i * W.length + W.length ≤ H.length * W.length := by have := Nat.mul_le_mul_right W.length (show i + 1 ≤ H.length from hi); rw [Nat.add_mul, Nat.one_mul] at this; exact this
  refine lp3 (fun n (j : Nat) (S : List (List Nat)) (J1 : MJ) => f_Suite_countWords_L48 (nI (2 ^ e)) (nI i) K n (nI S.length) (nI j) I J1) (fun j S J1 => j ≤ W.length ∧ (∀ c, c ≠ 36 → J1 c = J0 c) ∧ RmI J1 e S ∧ wsI H W S i j) (fun j _ _ => W.length - j) ?_ 0 S0 J ⟨Nat.zero_le _, hj, hR, hC⟩
  rintro n j S J1 ⟨b1, b2, b3, b4⟩ ih
  obtain ⟨i1, i2, i3⟩ := id b4
  unfold f_Suite_countWords_L48
  rw [h3]
  by_cases ej : j = W.length
  · rw [if_pos (by rw [ej]; exact Int32.le_refl _)]
    refine q S J1 b2 b3 ⟨i1, fun i' j' f' l' a b c => i2 i' j' f' l' a b ?_, ?_⟩
    · have := (List.getElem?_eq_some_iff.mp b).1
      omega
    · rw [Nat.add_mul, Nat.one_mul]; omega
  · have hg := List.getElem?_eq_getElem (show j < W.length by omega)
    generalize W[j] = l at hg
    have hlo := ho2 l (List.mem_of_getElem? hg)
    have wl : wOk l := ⟨by omega, hlo.2⟩
    have wfl : wOk (f ++ l) := wOk_app ⟨by omega, hfo.2⟩ wl (by omega)
    rw [if_neg (by rw [leNN (by omega) (by omega)]; omega), vpN (by omega), vpN (by omega), nI_clamp (by omega), nI_clamp (by omega), b2 33 (by decide), b2 35 (by decide), h1 i f hf, h2 j l hg]
    refine ⟨by omega, by omega, s_join wl ?_⟩
    have done : ∀ S' : List (List Nat), (∀ w ∈ S, w ∈ S') → f ++ l ∈ S' → ∀ (i' j' : Nat) (f' l' : List Nat), H[i']? = some f' → W[j']? = some l' → (i' < i ∨ (i' = i ∧ j' < j + 1)) → f' ++ l' ∈ S' := fun S' k1 k2 i' j' f' l' a b c => by
      by_cases c2 : i' = i ∧ j' = j
      · obtain ⟨rfl, rfl⟩ := c2
        rw [hf] at a; rw [hg] at b
        cases a; cases b
        exact k2
      · exact k1 _ (i2 i' j' f' l' a b (by omega))
    refine s_isNew he b3 (by omega) wfl (fun hin => ?_) (fun hno J2 g1 g2 => ?_)
    · rw [if_pos rfl]
      unfold f_Suite_countWords_b84
      intro t et
      rw [et, nI_1 j]
      exact ih (j + 1) S J1 ⟨by omega, b2, b3, i1, done S (fun _ hx => hx) hin, by omega⟩ (by omega)
    · rw [if_neg (by decide)]
      intro t et
      unfold f_Suite_countWords_b84
      intro t' et'
      have el : nI S.length + 1 = nI (S ++ [f ++ l]).length := by rw [nI_1, List.length_append, List.length_singleton]
      rw [et, et', nI_1 j, el]
      refine ih (j + 1) (S ++ [f ++ l]) J2 ⟨by omega, fun c hc => by rw [g1 c hc, b2 c hc], g2, fun w hw => ?_, done _ (fun _ hx => List.mem_append_left _ hx) (List.mem_append_right _ List.mem_cons_self), ?_⟩ (by omega)
      · rcases List.mem_append.mp hw with hw | hw
        · exact i1 w hw
        · rw [List.mem_singleton] at hw
          exact ⟨f, List.mem_of_getElem? hf, l, List.mem_of_getElem? hg, hw⟩
      · rw [List.length_append, List.length_singleton]; omega
theorem s_count {H W : List (List Nat)} {I : MI} {J : MJ} {Q : Int32 → MI → MJ → Prop} (hH : H.length ≤ 175) (hW : W.length ≤ 6) (h0 : I 26 1 = nI H.length) (h1 : WdA J 33 H) (h3 : I 26 3 = nI W.length) (h2 : WdA J 35 W) (ho : ∀ v ∈ H, v.length ≤ 8 ∧ ∀ a ∈ v, a < 4) (ho2 : ∀ v ∈ W, v.length ≤ 5 ∧ ∀ a ∈ v, a < 4) (q : ∀ (S : List (List Nat)) (J' : MJ), (∀ c, c ≠ 36 → J' c = J c) → S.Nodup → (∀ w, w ∈ S ↔ ∃ f ∈ H, ∃ l ∈ W, w = f ++ l) → Q (nI S.length) I J') : f_Suite_countWords I J Q := by
  unfold f_Suite_countWords
  have hmul : H.length * W.length ≤ 175 * 6 := Nat.mul_le_mul hH hW
  rw [h0, h3, pk_mul]
  refine s_room (by omega) (fun e he hm => s_clear he (fun J1 e1 r1 => ?_))
  refine lp3 (fun n (i : Nat) (S : List (List Nat)) (J2 : MJ) => f_Suite_countWords_L37 (nI (2 ^ e)) _ n (nI S.length) (nI i) I J2) (fun i S J2 => i ≤ H.length ∧ (∀ c, c ≠ 36 → J2 c = J c) ∧ RmI J2 e S ∧ wsI H W S i 0) (fun i _ _ => H.length - i) ?_ 0 [] J1 ⟨Nat.zero_le _, e1, r1, (fun w hw => by cases hw), (fun i' j' f l _ _ c => by omega), Nat.zero_le _⟩
  rintro n i S J2 ⟨b1, b2, b3, b4⟩ ih
  unfold f_Suite_countWords_L37
  rw [h0]
  by_cases ei : i = H.length
  · rw [if_pos (by rw [ei]; exact Int32.le_refl _)]
    refine q S J2 b2 b3.2.1 (fun w => ⟨b4.1 w, ?_⟩)
    rintro ⟨f, hf, l, hl, rfl⟩
    obtain ⟨i', hi'⟩ := List.mem_iff_getElem?.mp hf
    obtain ⟨j', hj'⟩ := List.mem_iff_getElem?.mp hl
    exact b4.2.1 i' j' f l hi' hj' (Or.inl (by have := (List.getElem?_eq_some_iff.mp hi').1; omega))
  · have hg := List.getElem?_eq_getElem (show i < H.length by omega)
    generalize H[i] = f at hg
    rw [if_neg (by rw [leNN (by omega) (by omega)]; omega)]
    refine s_count_in he hm hH hW h1 h3 h2 ho ho2 hg b2 b3 b4 (fun S' J3 g1 g2 g3 => ?_)
    intro t et
    rw [et, nI_1 i]
    exact ih (i + 1) S' J3 ⟨by omega, g1, g2, g3⟩ (by omega)
/-! how many words a set of words has -/
noncomputable section
def cntP (P : List Nat → Prop) : Nat := by classical exact if h : ∃ S : List (List Nat), S.Nodup ∧ ∀ w, w ∈ S ↔ P w then (Classical.choose h).length else 0
end
theorem cntP_eq {P : List Nat → Prop} {S : List (List Nat)} (h1 : S.Nodup) (h2 : ∀ w, w ∈ S ↔ P w) : cntP P = S.length := by
  have hex : ∃ S : List (List Nat), S.Nodup ∧ ∀ w, w ∈ S ↔ P w := ⟨S, h1, h2⟩
  unfold cntP
  rw [dif_pos hex]
  obtain ⟨k1, k2⟩ := Classical.choose_spec hex
  exact ((List.perm_ext_iff_of_nodup k1 h1).mpr (fun w => by rw [k2, h2])).length_eq
