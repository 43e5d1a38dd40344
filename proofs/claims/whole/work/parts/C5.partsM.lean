/-! SUITE: its parts, the reference -/
def GfM (f c : Nat) (I I' : MI) (J J' : MJ) : Prop := (∀ i, i ≠ 177 → I' i = I i) ∧ (∀ k, k ≠ f → I' 177 k = I 177 k) ∧ ∀ i, i ≠ c → J' i = J i
theorem GfM.rf {f c : Nat} {I : MI} {J : MJ} : GfM f c I I J J := ⟨fun _ _ => rfl, fun _ _ => rfl, fun _ _ => rfl⟩
theorem GfM.tr {f c : Nat} {I I' I'' : MI} {J J' J'' : MJ} (h : GfM f c I I' J J') (h' : GfM f c I' I'' J' J'') : GfM f c I I'' J J'' := ⟨fun i hi => (h'.1 i hi).trans (h.1 i hi), fun i hi => (h'.2.1 i hi).trans (h.2.1 i hi), fun i a => (h'.2.2 i a).trans (h.2.2 i a)⟩
theorem GfM.add {f c : Nat} {I I' : MI} {J J' : MJ} {W : List (List Nat)} {w : List Nat} (hW : WdA J c W) (ej : J' = sJ J c (vp_updL (J c) W.length (lN (num w)))) (ei : I' = sI I 177 (upd (I 177) f (nI (W.length + 1)))) : GfM f c I I' J J' ∧ I' 177 f = nI (W ++ [w]).length ∧ WdA J' c (W ++ [w]) := by
  refine ⟨⟨fun i hi => by rw [ei, sI_n _ _ hi], fun k hk => by rw [ei, sI_s, pk_un hk], fun i hi => by rw [ej, sJ_n _ _ hi]⟩, ?_, hW.add ej⟩
  rw [ei, sI_s, pk_us, List.length_append, List.length_singleton]
/-- what gathering changes -/
def PfM (I I' : MI) (J J' : MJ) : Prop := (∀ i, i ≠ 177 → i ≠ 201 → i ≠ 202 → i ≠ 204 → I' i = I i) ∧ (∀ k, k ≠ 42 → k ≠ 46 → k ≠ 47 → k ≠ 48 → I' 177 k = I 177 k) ∧ ∀ i, i ≠ 203 → (i < 211 ∨ 214 < i) → J' i = J i
theorem PfM.tr {I I' I'' : MI} {J J' J'' : MJ} (h : PfM I I' J J') (h' : PfM I' I'' J' J'') : PfM I I'' J J'' := ⟨fun i a b c d => (h'.1 i a b c d).trans (h.1 i a b c d), fun i a b c d => (h'.2.1 i a b c d).trans (h.2.1 i a b c d), fun i a b => (h'.2.2 i a b).trans (h.2.2 i a b)⟩
theorem GfM.pf {f c : Nat} {I I' : MI} {J J' : MJ} (h : GfM f c I I' J J') (hf : f = 42 ∨ f = 46 ∨ f = 47 ∨ f = 48) (hc : 211 ≤ c ∧ c ≤ 214) : PfM I I' J J' := ⟨fun i a _ _ _ => h.1 i a, fun k a b c d => h.2.1 k (by omega), fun i a b => h.2.2 i (by omega)⟩
theorem PfM.ms {I I' : MI} {J J' : MJ} (h : PfM I I' J J') : MSc I I' J J' := by
  refine ⟨fun k hk => h.2.1 k ?_ ?_ ?_ ?_, fun i hi => h.1 i (by omega) (by omega) (by omega) (by omega), fun q _ => MEq.of (fun i a b => h.1 i (by omega) (by omega) (by omega) (by omega)), ⟨by rw [h.2.2 177 (by decide) (by decide)], h.2.2 180 (by decide) (by decide), h.2.2 215 (by decide) (by decide), h.2.2 216 (by decide) (by decide), h.2.2 217 (by decide) (by decide)⟩, ⟨fun i hi => h.1 i (by omega) (by omega) (by omega) (by omega), fun i hi => h.2.2 i (by omega) (by omega)⟩⟩
  all_goals (intro e; subst e; revert hk; decide)
theorem PfM.rep {I I' : MI} {J J' : MJ} {m : Nat} {A : AM} (h : PfM I I' J J') (hA : RepM I m A) (hv : VA A) : RepM I' m A := hA.kp hv (MEq.of (fun i a b => h.1 i (by omega) (by omega) (by omega) (by omega)))
/-! first parts -/
theorem m_first_in {s k : Nat} {u : List Nat} {F : List (List Nat)} {I : MI} {J : MJ} {K : MI → MJ → Prop} (hs : s < 14) (hu : J 197 (252 + s) = lN (num u)) (hk : k ≤ 4) (hl : F.length + k ≤ 32) (h6 : I 177 46 = nI F.length) (hF : WdA J 212 F) (q : ∀ I' J', GfM 46 212 I I' J J' → I' 177 46 = nI (F ++ (List.range k).map (fun a => u ++ [a])).length → WdA J' 212 (F ++ (List.range k).map (fun a => u ++ [a])) → K I' J') : ∃ n, f_Model_findParts_L73 (nI k) (nI s) K n 0 I J := by
  refine lp3 (fun n (a : Nat) (I1 : MI) (J1 : MJ) => f_Model_findParts_L73 (nI k) (nI s) K n (nI a) I1 J1) (fun a I1 J1 => a ≤ k ∧ GfM 46 212 I I1 J J1 ∧ I1 177 46 = nI (F ++ (List.range a).map (fun a => u ++ [a])).length ∧ WdA J1 212 (F ++ (List.range a).map (fun a => u ++ [a]))) (fun a _ _ => k - a) ?_ 0 I J ⟨Nat.zero_le _, GfM.rf, by simpa using h6, by simpa using hF⟩
  rintro n a I1 J1 ⟨b1, b2, b3, b4⟩ ih
  unfold f_Model_findParts_L73
  by_cases ea : a = k
  · subst ea
    rw [if_pos (Int32.le_refl _)]
    exact q I1 J1 b2 b3 b4
  · have hlen : (F ++ (List.range a).map (fun a => u ++ [a])).length = F.length + a := by rw [List.length_append, List.length_map, List.length_range]
    rw [if_neg (by rw [leNN (by omega) (by omega)]; omega), show (252 : Int32) = nI 252 from rfl, nI_add, vpN (by omega), b3, vpN (by omega), nI_clamp (by omega), nI_clamp (by omega), b2.2.2 197 (by decide), hu, num_4 (by omega), nI_1]
    refine ⟨by omega, by omega, fun J2 e2 I2 f2 t et => ?_⟩
    obtain ⟨g1, g2, g3⟩ := GfM.add b4 e2 f2
    rw [et, nI_1 a]
    have e : F ++ (List.range (a + 1)).map (fun a => u ++ [a]) = F ++ (List.range a).map (fun a => u ++ [a]) ++ [u ++ [a]] := by rw [List.range_succ]; simp
    exact ih (a + 1) I2 J2 ⟨by omega, b2.tr g1, by rw [e]; exact g2, by rw [e]; exact g3⟩ (by omega)
noncomputable section
def fsL (L : AM) : Nat → List (List Nat)
  | 0 => []
  | s + 1 => fsL L s ++ [ac L s] ++ (List.range L.2.1).map (fun a => ac L s ++ [a])
end
theorem fsL_len (L : AM) : ∀ s, (fsL L s).length = s * (1 + L.2.1)
  | 0 => by rw [Nat.zero_mul]; rfl
  | s + 1 => by
    show (fsL L s ++ [ac L s] ++ (List.range L.2.1).map (fun a => ac L s ++ [a])).length = _
    rw [List.length_append, List.length_append, List.length_map, List.length_range, List.length_singleton, fsL_len L s, Nat.add_mul, Nat.one_mul]
    omega
theorem fsL_mem {L : AM} {w : List Nat} : ∀ s, w ∈ fsL L s ↔ ∃ s', s' < s ∧ (w = ac L s' ∨ ∃ a, a < L.2.1 ∧ w = ac L s' ++ [a])
  | 0 => by
    constructor
    · intro h; cases h
    · rintro ⟨s', h, _⟩; omega
  | s + 1 => by
    show w ∈ fsL L s ++ [ac L s] ++ (List.range L.2.1).map (fun a => ac L s ++ [a]) ↔ _
    rw [List.mem_append, List.mem_append, fsL_mem s, List.mem_singleton, List.mem_map]
    constructor
    · rintro ((⟨s', h1, h2⟩ | h) | ⟨a, h1, h2⟩)
      · exact ⟨s', by omega, h2⟩
      · exact ⟨s, by omega, Or.inl h⟩
      · exact ⟨s, by omega, Or.inr ⟨a, List.mem_range.mp h1, h2.symm⟩⟩
    · rintro ⟨s', h1, h2⟩
      by_cases e : s' = s
      · subst e
        rcases h2 with h2 | ⟨a, h2, h3⟩
        · exact Or.inl (Or.inr h2)
        · exact Or.inr ⟨a, List.mem_range.mpr h2, h3.symm⟩
      · exact Or.inl (Or.inl ⟨s', by omega, h2⟩)
theorem m_firstP {L : AM} {I : MI} {J : MJ} {K : MI → MJ → Prop} (hn : aN L ≤ 6) (hk : L.2.1 ≤ 3) (hu : ∀ s, s < aN L → J 197 (252 + s) = lN (num (ac L s))) (h6 : I 177 46 = 0) (q : ∀ I' J', GfM 46 212 I I' J J' → I' 177 46 = nI (fsL L (aN L)).length → WdA J' 212 (fsL L (aN L)) → K I' J') : ∃ n, f_Model_findParts_L34 (nI (aN L)) (nI L.2.1) K n 0 I J := by
  generalize hnn : aN L = N at *
  refine lp3 (fun n (s : Nat) (I1 : MI) (J1 : MJ) => f_Model_findParts_L34 (nI N) (nI L.2.1) K n (nI s) I1 J1) (fun s I1 J1 => s ≤ N ∧ GfM 46 212 I I1 J J1 ∧ I1 177 46 = nI (fsL L s).length ∧ WdA J1 212 (fsL L s)) (fun s _ _ => N - s) ?_ 0 I J ⟨Nat.zero_le _, GfM.rf, h6, WdA.nil⟩
  rintro n s I1 J1 ⟨b1, b2, b3, b4⟩ ih
  unfold f_Model_findParts_L34
  by_cases es : s = N
  · subst es
    rw [if_pos (Int32.le_refl _)]
    exact q I1 J1 b2 b3 b4
  · have hlen := fsL_len L s
    have hmul : s * (1 + L.2.1) ≤ s * 4 := Nat.mul_le_mul_left _ (by omega)
    rw [if_neg (by rw [leNN (by omega) (by omega)]; omega), show (252 : Int32) = nI 252 from rfl, nI_add, vpN (by omega), b3, vpN (by omega), nI_clamp (by omega), nI_clamp (by omega), b2.2.2 197 (by decide), hu s (by omega), nI_1]
    refine ⟨by omega, by omega, fun J2 e2 I2 f2 => ?_⟩
    obtain ⟨g1, g2, g3⟩ := GfM.add b4 e2 f2
    refine m_first_in (u := ac L s) (by omega) (by rw [g1.2.2 197 (by decide), b2.2.2 197 (by decide)]; exact hu s (by omega)) (by omega) (by rw [List.length_append, List.length_singleton]; omega) g2 g3 (fun I3 J3 k1 k2 k3 => ?_)
    intro t et
    rw [et, nI_1 s]
    exact ih (s + 1) I3 J3 ⟨by omega, (b2.tr g1).tr k1, k2, k3⟩ (by omega)
/-! middle parts -/
theorem m_mid3 {i c k : Nat} {m : List Nat} {I : MI} {J : MJ} {K : MI → MJ → Prop} (hm : J 213 i = lN (num m)) (hi : i < c) (hk : k ≤ 4) (hc : c + k ≤ 16) (h7 : I 177 47 = nI c) (q : ∀ I' J', GfM 47 213 I I' J J' → I' 177 47 = nI (c + k) → (∀ j, j < c → J' 213 j = J 213 j) → (∀ a, a < k → J' 213 (c + a) = lN (num (m ++ [a]))) → K I' J') : ∃ n, f_Model_findParts_L173 (nI k) (nI i) K n 0 I J := by
  refine lp3 (fun f (a : Nat) (I1 : MI) (J1 : MJ) => f_Model_findParts_L173 (nI k) (nI i) K f (nI a) I1 J1) (fun a I1 J1 => a ≤ k ∧ GfM 47 213 I I1 J J1 ∧ I1 177 47 = nI (c + a) ∧ (∀ j, j < c → J1 213 j = J 213 j) ∧ ∀ b, b < a → J1 213 (c + b) = lN (num (m ++ [b]))) (fun a _ _ => k - a) ?_ 0 I J ⟨Nat.zero_le _, GfM.rf, h7, fun _ _ => rfl, fun b hb => absurd hb (Nat.not_lt_zero _)⟩
  rintro f a I1 J1 ⟨b1, b2, b3, b4, b5⟩ ih
  unfold f_Model_findParts_L173
  by_cases ea : a = k
  · subst ea
    rw [if_pos (Int32.le_refl _)]
    exact q I1 J1 b2 b3 b4 b5
  · rw [if_neg (by rw [leNN (by omega) (by omega)]; omega), b3, vpN (by omega), vpN (by omega), nI_clamp (by omega), nI_clamp (by omega), b4 i hi, hm, num_4 (by omega), nI_1]
    refine ⟨by omega, by omega, fun J2 e2 I2 f2 t et => ?_⟩
    rw [et, nI_1 a]
    have m2 : ∀ j, J2 213 j = if j = c + a then lN (num (m ++ [a])) else J1 213 j := fun j => by rw [e2, sJ_s, updL_at]
    refine ih (a + 1) I2 J2 ⟨by omega, b2.tr ⟨fun j hj => by rw [f2, sI_n _ _ hj], fun j hj => by rw [f2, sI_s, pk_un hj], fun j hj => by rw [e2, sJ_n _ _ hj]⟩, by rw [f2, sI_s, pk_us]; rfl, fun j hj => by rw [m2, if_neg (by omega)]; exact b4 j hj, fun b hb => ?_⟩ (by omega)
    rw [m2]
    by_cases e : b = a
    · subst e; rw [if_pos rfl]
    · rw [if_neg (by omega)]; exact b5 b (by omega)
/-- the middle parts made from the first i -/
def mdC (h k i : Nat) (I : MI) (J : MJ) : Prop := I 177 47 = nI (1 + i * k) ∧ ∀ (j : Nat) (m : List Nat), j < 1 + i * k → (mds h k)[j]? = some m → J 213 j = lN (num m)
theorem m_mid2 {h k i0 i1 : Nat} {I : MI} {J : MJ} {K : MI → MJ → Prop} (hh : h ≤ 2) (h1 : 1 ≤ k) (h3 : k ≤ 3) (h01 : i0 ≤ i1) (hN : i1 ≤ mdN h k) (hC : mdC h k i0 I J) (q : ∀ I' J', GfM 47 213 I I' J J' → mdC h k i1 I' J' → K I' J') : ∃ n, f_Model_findParts_L163 (nI k) (nI i1) K n (nI i0) I J := by
  obtain ⟨n1, n2, n3⟩ := mds_len hh h1 h3
  refine lp3 (fun f (i : Nat) (I1 : MI) (J1 : MJ) => f_Model_findParts_L163 (nI k) (nI i1) K f (nI i) I1 J1) (fun i I1 J1 => i ≤ i1 ∧ GfM 47 213 I I1 J J1 ∧ mdC h k i I1 J1) (fun i _ _ => i1 - i) ?_ i0 I J ⟨h01, GfM.rf, hC⟩
  rintro f i I1 J1 ⟨b1, b2, b3, b4⟩ ih
  unfold f_Model_findParts_L163
  by_cases ei : i = i1
  · subst ei
    rw [if_pos (Int32.le_refl _)]
    exact q I1 J1 b2 ⟨b3, b4⟩
  · have hik : i * k + k ≤ mdN h k * k := by have := Nat.mul_le_mul_right k (show i + 1 ≤ mdN h k by omega); rw [Nat.add_mul, Nat.one_mul] at this; exact this
    have hik1 : i ≤ i * k := Nat.le_mul_of_pos_right i h1
    have hg := List.getElem?_eq_getElem (show i < (mds h k).length by omega)
    generalize (mds h k)[i] = m at hg
    rw [if_neg (by rw [leNN (by omega) (by omega)]; omega)]
    refine m_mid3 (c := 1 + i * k) (m := m) (b4 i m (by omega) hg) (by omega) (by omega) (by omega) b3 (fun I2 J2 g1 g2 g3 g4 => ?_)
    intro t et
    rw [et, nI_1 i]
    have e : 1 + (i + 1) * k = 1 + i * k + k := by rw [Nat.add_mul, Nat.one_mul]; omega
    refine ih (i + 1) I2 J2 ⟨by omega, b2.tr g1, by rw [e]; exact g2, fun j m' hj hm' => ?_⟩ (by omega)
    rw [e] at hj
    by_cases c : j < 1 + i * k
    · rw [g3 j c]; exact b4 j m' c hm'
    · have := mds_kid hh h1 h3 (show i < mdN h k by omega) (show j - (1 + i * k) < k by omega) hg
      rw [show 1 + i * k + (j - (1 + i * k)) = j by omega, hm'] at this
      cases this
      have := g4 (j - (1 + i * k)) (by omega)
      rw [show 1 + i * k + (j - (1 + i * k)) = j by omega] at this
      exact this
def stL (k : Nat) : Nat → Nat
  | 0 => 0
  | l + 1 => 1 + stL k l * k
theorem stL_h {h k : Nat} (hh : h ≤ 2) : mdN h k = stL k h := by
  have c : h = 0 ∨ h = 1 ∨ h = 2 := by omega
  rcases c with rfl | rfl | rfl
  · rfl
  · show 1 = 1 + 0 * k
    rw [Nat.zero_mul]
  · show 1 + k = 1 + (1 + 0 * k) * k
    rw [Nat.zero_mul, Nat.add_zero, Nat.one_mul]
theorem stL_mono {k l h : Nat} (h1 : 1 ≤ k) (hl : l ≤ h) (hh : h ≤ 2) : stL k l ≤ stL k h := by
  have e1 : stL k 1 = 1 := by show 1 + 0 * k = 1; rw [Nat.zero_mul]
  have e2 : stL k 2 = 1 + k := by show 1 + (1 + 0 * k) * k = 1 + k; rw [Nat.zero_mul, Nat.add_zero, Nat.one_mul]
  have e0 : stL k 0 = 0 := rfl
  have c : h = 0 ∨ h = 1 ∨ h = 2 := by omega
  have c' : l = 0 ∨ l = 1 ∨ l = 2 := by omega
  rcases c with rfl | rfl | rfl <;> rcases c' with rfl | rfl | rfl <;> omega
theorem m_mid {h k : Nat} {I : MI} {J : MJ} {K : MI → MJ → Prop} (hh : h ≤ 2) (h1 : 1 ≤ k) (h3 : k ≤ 3) (hC : mdC h k 0 I J) (q : ∀ I' J', GfM 47 213 I I' J J' → I' 177 47 = nI (mds h k).length → WdA J' 213 (mds h k) → K I' J') : ∃ n, f_Model_findParts_L147 (nI h) (nI k) K n 0 0 I J := by
  obtain ⟨n1, n2, n3⟩ := mds_len hh h1 h3
  refine lp3 (fun f (l : Nat) (I1 : MI) (J1 : MJ) => f_Model_findParts_L147 (nI h) (nI k) K f (nI (stL k l)) (nI l) I1 J1) (fun l I1 J1 => l ≤ h ∧ GfM 47 213 I I1 J J1 ∧ mdC h k (stL k l) I1 J1) (fun l _ _ => h - l) ?_ 0 I J ⟨Nat.zero_le _, GfM.rf, hC⟩
  rintro f l I1 J1 ⟨b1, b2, b3⟩ ih
  unfold f_Model_findParts_L147
  by_cases el : l = h
  · subst el
    rw [if_pos (Int32.le_refl _)]
    rw [stL_h hh] at n1
    refine q I1 J1 b2 (by rw [n1]; exact b3.1) (fun j m hm => b3.2 j m (by have := (List.getElem?_eq_some_iff.mp hm).1; omega) hm)
  · have hm := stL_mono h1 (show l + 1 ≤ h by omega) hh
    have es : stL k (l + 1) = 1 + stL k l * k := rfl
    have hlk : stL k l ≤ stL k l * k := Nat.le_mul_of_pos_right _ h1
    rw [if_neg (by rw [leNN (by omega) (by omega)]; omega), b3.1, ← es]
    intro t et
    rw [et]
    refine m_mid2 hh h1 h3 (by omega) (by rw [stL_h hh]; exact hm) b3 (fun I2 J2 g1 g2 => ?_)
    intro t' et'
    rw [et', nI_1 l]
    exact ih (l + 1) I2 J2 ⟨by omega, b2.tr g1, g2⟩ (by omega)
/-! last parts -/
theorem fuN_sym (A : AM) (x y : Option (Nat × Nat)) : fuN A A x y = fuN A A y x := by
  have : fuP A A x y = fuP A A y x := by
    funext v
    unfold fuP
    exact propext ⟨fun h => h.symm, fun h => h.symm⟩
  unfold fuN
  rw [this]
/-- what gathering the last parts changes -/
def LaM (I I' : MI) (J J' : MJ) : Prop := (∀ i, i ≠ 177 → i ≠ 201 → i ≠ 202 → i ≠ 204 → I' i = I i) ∧ (∀ k, k ≠ 48 → I' 177 k = I 177 k) ∧ ∀ i, i ≠ 203 → i ≠ 214 → J' i = J i
theorem LaM.rf {I : MI} {J : MJ} : LaM I I J J := ⟨fun _ _ _ _ _ => rfl, fun _ _ => rfl, fun _ _ _ => rfl⟩
theorem LaM.tr {I I' I'' : MI} {J J' J'' : MJ} (h : LaM I I' J J') (h' : LaM I' I'' J' J'') : LaM I I'' J J'' := ⟨fun i a b c d => (h'.1 i a b c d).trans (h.1 i a b c d), fun i a => (h'.2.1 i a).trans (h.2.1 i a), fun i a b => (h'.2.2 i a b).trans (h.2.2 i a b)⟩
theorem LaM.pf {I I' : MI} {J J' : MJ} (h : LaM I I' J J') : PfM I I' J J' := ⟨h.1, fun k _ _ _ d => h.2.1 k d, fun i a b => h.2.2 i a (by omega)⟩
theorem m_last_in {L : AM} {t : Nat} {W0 : List (List Nat)} {I0 I : MI} {J0 J : MJ} {K : MI → MJ → Prop} (h : GoodL L) (hn : aN L ≤ 6) (hL : RepM I0 18 L) (ht : t < aN L) (hW : laI L W0 t 0) (hF : LaM I0 I J0 J) (c1 : I 177 48 = nI W0.length) (c2 : WdA J 214 W0) (q : ∀ W I' J', laI L W (t + 1) 0 → LaM I0 I' J0 J' → I' 177 48 = nI W.length → WdA J' 214 W → K I' J') : ∃ n, f_Model_findParts_L259 (nI t) K n 0 I J := by
  have hv := h.1.1
  refine lp4 (fun f (s : Nat) (W : List (List Nat)) (I1 : MI) (J1 : MJ) => f_Model_findParts_L259 (nI t) K f (nI s) I1 J1) (fun s W I1 J1 => s ≤ t ∧ laI L W t s ∧ LaM I0 I1 J0 J1 ∧ I1 177 48 = nI W.length ∧ WdA J1 214 W) (fun s _ _ _ => t - s) ?_ 0 W0 I J ⟨Nat.zero_le _, hW, hF, c1, c2⟩
  rintro f s W I1 J1 ⟨b1, b2, b3, b5, b6⟩ ih
  obtain ⟨i1, i2, i3, i4⟩ := id b2
  unfold f_Model_findParts_L259
  by_cases es : s = t
  · rw [if_pos (by rw [es]; exact Int32.le_refl _)]
    refine q W I1 J1 ⟨i1, i2, fun s' t' w a b c d => i3 s' t' w a b ?_ d, ?_⟩ b3 b5 b6
    · rcases c with c | c
      · by_cases e : t' = t
        · exact Or.inr ⟨e, by omega⟩
        · exact Or.inl (by omega)
      · omega
    · have e : tri (t + 1) = tri t + t := rfl
      omega
  · have hst : s < t := by omega
    obtain ⟨w, w1, w2, w3, w4⟩ := fu_L h hst ht
    have htri : tri t + s ≤ 14 := by
      have : ∀ t, t < 6 → tri t + t ≤ 15 := by decide
      have := this t (by omega)
      omega
    rw [if_neg (by rw [leNN (by omega) (by omega)]; omega), l18, b5, vpN (by omega)]
    have hL1 : RepM I1 18 L := b3.pf.rep hL hv
    have ok : ∀ u, u < aN L → okSo L (some (u, 0)) := fun u hu z hz => by cases hz; exact ⟨hu, (show 0 < 4 by decide), fun _ => rfl⟩
    refine m_diff (x := some (t, 0)) (y := some (s, 0)) (by decide) (by decide) hL1 hL1 hv hv h.1.n3 h.1.n3 (ok t ht) (ok s (by omega)) (fun I2 J2 d2 => ?_)
    rw [fuN_sym, w4, nI_clamp (by omega)]
    refine ⟨by omega, fun J3 e3 I3 f3 u eu => ?_⟩
    have h48 : I2 177 48 = nI W.length := by rw [d2.1 177 (by decide) (by decide) (by decide)]; exact b5
    rw [h48, nI_1] at f3
    obtain ⟨g1, g2, g3⟩ := GfM.add (b6.kp (d2.2 214 (by decide))) e3 f3
    rw [eu, nI_1 s]
    have fr : LaM I0 I3 J0 J3 := (b3.tr ⟨fun i a b c d => d2.1 i b c d, fun k hk => by rw [d2.1 177 (by decide) (by decide) (by decide)], fun i a b => d2.2 i a⟩).tr ⟨fun i a _ _ _ => g1.1 i a, g1.2.1, fun i _ b => g1.2.2 i b⟩
    refine ih (s + 1) (W ++ [w]) I3 J3 ⟨by omega, ⟨fun v hv' => ?_, List.mem_append_left _ i2, fun s' t' v a b c d => ?_, ?_⟩, fr, g2, g3⟩ (by omega)
    · rcases List.mem_append.mp hv' with hv' | hv'
      · exact i1 v hv'
      · rw [List.mem_singleton] at hv'
        rw [hv']
        exact Or.inr ⟨s, t, hst, ht, w1⟩
    · rcases c with c | ⟨rfl, c⟩
      · exact List.mem_append_left _ (i3 s' t' v a b (Or.inl c) d)
      · by_cases e : s' = s
        · subst e; rw [w1] at d; cases d; exact List.mem_append_right _ List.mem_cons_self
        · exact List.mem_append_left _ (i3 s' t' v a b (Or.inr ⟨rfl, by omega⟩) d)
    · rw [List.length_append, List.length_singleton]; omega
theorem m_lasts {L : AM} {I : MI} {J : MJ} {K : MI → MJ → Prop} (h : GoodL L) (hn : aN L ≤ 6) (hL : RepM I 18 L) (c1 : I 177 48 = 1) (c2 : WdA J 214 [[]]) (q : ∀ W I' J', (∀ w, w ∈ W ↔ isLa L w) → W.length ≤ 16 → LaM I I' J J' → I' 177 48 = nI W.length → WdA J' 214 W → K I' J') : ∃ n, f_Model_findParts_L250 (nI (aN L)) K n 0 I J := by
  refine lp4 (fun f (t : Nat) (W : List (List Nat)) (I2 : MI) (J2 : MJ) => f_Model_findParts_L250 (nI (aN L)) K f (nI t) I2 J2) (fun t W I2 J2 => t ≤ aN L ∧ laI L W t 0 ∧ LaM I I2 J J2 ∧ I2 177 48 = nI W.length ∧ WdA J2 214 W) (fun t _ _ _ => aN L - t) ?_ 0 [[]] I J ⟨Nat.zero_le _, ⟨fun w hw => ?_, List.mem_cons_self, fun s' t' w a b c d => by omega, by decide⟩, LaM.rf, c1, c2⟩
  · rintro f t W I2 J2 ⟨b1, b2, b3, b5, b6⟩ ih
    obtain ⟨i1, i2, i3, i4⟩ := id b2
    unfold f_Model_findParts_L250
    by_cases et : t = aN L
    · rw [if_pos (by rw [et]; exact Int32.le_refl _)]
      refine q W I2 J2 (fun w => ⟨i1 w, fun hw => ?_⟩) ?_ b3 b5 b6
      · rcases hw with rfl | ⟨s', t', a, b, c⟩
        · exact i2
        · exact i3 s' t' w a b (Or.inl (by omega)) c
      · have : ∀ t, t < 7 → tri t ≤ 15 := by decide
        have := this t (by omega)
        omega
    · rw [if_neg (by rw [leNN (by omega) (by omega)]; omega)]
      refine m_last_in h hn hL (by omega) b2 b3 b5 b6 (fun W' I3 J3 g1 g2 g4 g5 => ?_)
      intro u eu
      rw [eu, nI_1 t]
      exact ih (t + 1) W' I3 J3 ⟨by omega, g1, g2, g4, g5⟩ (by omega)
  · rw [List.mem_singleton] at hw
    exact Or.inl hw
/-! all parts -/
def PtM (L : AM) (d : Nat) (W : List (List Nat)) (I : MI) (J : MJ) : Prop := (∀ w, w ∈ W ↔ isLa L w) ∧ W.length ≤ 16 ∧ I 177 46 = nI (fsL L (aN L)).length ∧ WdA J 212 (fsL L (aN L)) ∧ I 177 47 = nI (mds d L.2.1).length ∧ WdA J 213 (mds d L.2.1) ∧ I 177 48 = nI W.length ∧ WdA J 214 W
theorem m_parts {L : AM} {d : Nat} {I : MI} {J : MJ} {Q : MI → MJ → Prop} (h : GoodL L) (hd : d ≤ 2) (hn : aN L ≤ 6) (hk : L.2.1 ≤ 3) (hL : RepM I 18 L) (hu : ∀ s, s < aN L → J 197 (252 + s) = lN (num (ac L s))) (q : ∀ W I' J', PtM L d W I' J' → PfM I I' J J' → Q I' J') : f_Model_findParts (nI d) I J Q := by
  have hv := h.1.1
  have hk1 := hv.2.1
  unfold f_Model_findParts
  have e18 : (18 : Int32).toNatClampNeg = 18 := by decide
  have v18 : vp_in 18 20 := (vpN (n := 18) (by decide)).mpr (by decide)
  intro I1 e1 I2 e2 I3 e3
  have f3 : (∀ i, i ≠ 177 → I3 i = I i) ∧ (∀ k, k ≠ 46 → k ≠ 47 → k ≠ 48 → I3 177 k = I 177 k) ∧ I3 177 46 = 0 := by
    refine ⟨fun i hi => by rw [e3, sI_n _ _ hi, e2, sI_n _ _ hi, e1, sI_n _ _ hi], fun k a b c => ?_, ?_⟩
    · rw [e3, sI_s, pk_un c, e2, sI_s, pk_un b, e1, sI_s, pk_un a]
    · rw [e3, sI_s, pk_un (by decide), e2, sI_s, pk_un (by decide), e1, sI_s, pk_us]
  have p3 : PfM I I3 J J := ⟨fun i a _ _ _ => f3.1 i a, fun k _ b c d => f3.2.1 k b c d, fun _ _ _ => rfl⟩
  refine ⟨v18, fun t et => ⟨v18, fun t' et' => ?_⟩⟩
  rw [e18, f3.1 185 (by decide), hL.2.1] at et
  rw [e18, f3.1 186 (by decide), hL.2.2.1] at et'
  rw [et, et']
  refine m_firstP hn hk hu f3.2.2 (fun I4 J4 a1 a2 a3 => ⟨vp0 (by decide), fun J5 e5 I5 f5 => ?_⟩)
  have a5 : GfM 47 213 I4 I5 J4 J5 := ⟨fun j hj => by rw [f5, sI_n _ _ hj], fun j hj => by rw [f5, sI_s, pk_un hj], fun j hj => by rw [e5, sJ_n _ _ hj]⟩
  have hc0 : mdC d L.2.1 0 I5 J5 := by
    refine ⟨by rw [f5, sI_s, pk_us, Nat.zero_mul]; rfl, fun j m hj hm => ?_⟩
    have e : j = 0 := by rw [Nat.zero_mul] at hj; omega
    subst e
    have : m = [] := by
      have h0 : (mds d L.2.1)[0]? = some [] := rfl
      rw [h0] at hm
      cases hm
      rfl
    rw [this, e5, sJ_s]
    exact pk_uLs
  refine m_mid hd hk1 hk hc0 (fun I6 J6 b1 b2 b3 => ⟨vp0 (by decide), fun J7 e7 I7 f7 => ?_⟩)
  have a6 : GfM 47 213 I4 I6 J4 J6 := a5.tr b1
  have a7 : GfM 48 214 I6 I7 J6 J7 := ⟨fun j hj => by rw [f7, sI_n _ _ hj], fun j hj => by rw [f7, sI_s, pk_un hj], fun j hj => by rw [e7, sJ_n _ _ hj]⟩
  have p7 : PfM I I7 J J7 := ((p3.tr (a1.pf (by decide) (by decide))).tr (a6.pf (by decide) (by decide))).tr (a7.pf (by decide) (by decide))
  refine m_lasts h hn (p7.rep hL hv) (by rw [f7, sI_s, pk_us]) (fun i w hw => ?_) (fun W I8 J8 c1 c2 c3 c5 c6 => ?_)
  · have hi := (List.getElem?_eq_some_iff.mp hw).1
    have e : i = 0 := by rw [List.length_singleton] at hi; omega
    subst e
    have : w = [] := by simpa using hw.symm
    rw [this, e7, sJ_s]
    exact pk_uLs
  · refine q W I8 J8 ⟨c1, c2, ?_, ?_, ?_, ?_, c5, c6⟩ (p7.tr c3.pf)
    · rw [c3.2.1 46 (by decide), a7.2.1 46 (by decide), a6.2.1 46 (by decide)]; exact a2
    · exact a3.kp (by rw [c3.2.2 212 (by decide) (by decide), a7.2.2 212 (by decide), a6.2.2 212 (by decide)])
    · rw [c3.2.1 47 (by decide), a7.2.1 47 (by decide)]; exact b2
    · exact b3.kp (by rw [c3.2.2 213 (by decide) (by decide), a7.2.2 213 (by decide)])
