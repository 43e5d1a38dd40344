/-! SUITE: its words, the reference -/
theorem flat_len {α β : Type} {g : α → List β} {c : Nat} : ∀ (X : List α), (∀ x ∈ X, (g x).length = c) → (X.flatMap g).length = X.length * c
  | [], _ => by simp
  | x :: X, h => by
    rw [List.flatMap_cons, List.length_append, h x List.mem_cons_self, flat_len X (fun y hy => h y (List.mem_cons_of_mem _ hy)), List.length_cons, Nat.add_mul, Nat.one_mul]
    omega
def PtS (F M W : List (List Nat)) (I : MI) (J : MJ) : Prop := F.length ≤ 24 ∧ M.length ≤ 13 ∧ W.length ≤ 16 ∧ I 177 46 = nI F.length ∧ WdA J 212 F ∧ I 177 47 = nI M.length ∧ WdA J 213 M ∧ I 177 48 = nI W.length ∧ WdA J 214 W ∧ (∀ m ∈ M, wOk m) ∧ ∀ l ∈ W, wOk l
theorem PtS.kp {F M W : List (List Nat)} {I I' : MI} {J J' : MJ} (h : PtS F M W I J) (g : GfM 42 211 I I' J J') : PtS F M W I' J' := by
  obtain ⟨h1, h2, h3, h4, h5, h6, h7, h8, h9, h10, h11⟩ := h
  exact ⟨h1, h2, h3, by rw [g.2.1 46 (by decide)]; exact h4, h5.kp (g.2.2 212 (by decide)), by rw [g.2.1 47 (by decide)]; exact h6, h7.kp (g.2.2 213 (by decide)), by rw [g.2.1 48 (by decide)]; exact h8, h9.kp (g.2.2 214 (by decide)), h10, h11⟩
theorem m_su3 {i j : Nat} {f m : List Nat} {F M W Z : List (List Nat)} {I : MI} {J : MJ} {K : MI → MJ → Prop} (hP : PtS F M W I J) (hf : F[i]? = some f) (hm : M[j]? = some m) (hl : Z.length + W.length ≤ 6000) (h2 : I 177 42 = nI Z.length) (hZ : WdA J 211 Z) (q : ∀ I' J', GfM 42 211 I I' J J' → I' 177 42 = nI (Z ++ W.map (fun l => f ++ m ++ l)).length → WdA J' 211 (Z ++ W.map (fun l => f ++ m ++ l)) → K I' J') : ∃ n, f_Model_findSuite_L87 (nI i) (nI j) K n 0 I J := by
  have hi := (List.getElem?_eq_some_iff.mp hf).1
  have hj := (List.getElem?_eq_some_iff.mp hm).1
  refine lp3 (fun n (l : Nat) (I1 : MI) (J1 : MJ) => f_Model_findSuite_L87 (nI i) (nI j) K n (nI l) I1 J1) (fun l I1 J1 => l ≤ W.length ∧ GfM 42 211 I I1 J J1 ∧ I1 177 42 = nI (Z ++ (W.take l).map (fun l => f ++ m ++ l)).length ∧ WdA J1 211 (Z ++ (W.take l).map (fun l => f ++ m ++ l))) (fun l _ _ => W.length - l) ?_ 0 I J ⟨Nat.zero_le _, GfM.rf, by simpa using h2, by simpa using hZ⟩
  rintro n l I1 J1 ⟨b1, b2, b3, b4⟩ ih
  obtain ⟨p1, p2, p3, p4, p5, p6, p7, p8, p9, p10, p11⟩ := hP.kp b2
  unfold f_Model_findSuite_L87
  rw [p8]
  by_cases el : l = W.length
  · rw [if_pos (by rw [el]; exact Int32.le_refl _)]
    rw [el, List.take_length] at b3 b4
    exact q I1 J1 b2 b3 b4
  · have hg := List.getElem?_eq_getElem (show l < W.length by omega)
    have ht : W.take (l + 1) = W.take l ++ [W[l]] := (List.take_append_getElem (show l < W.length by omega)).symm
    generalize W[l] = y at hg ht
    have hlen : (Z ++ (W.take l).map (fun l => f ++ m ++ l)).length = Z.length + l := by rw [List.length_append, List.length_map, List.length_take]; omega
    rw [if_neg (by rw [leNN (by omega) (by omega)]; omega), vpN (by omega), vpN (by omega), nI_clamp (by omega), nI_clamp (by omega), p5 i f hf, p7 j m hm]
    refine ⟨by omega, by omega, m_join (p10 m (List.mem_of_getElem? hm)) ?_⟩
    rw [vpN (by omega), nI_clamp (by omega), p9 l y hg]
    refine ⟨by omega, m_join (p11 y (List.mem_of_getElem? hg)) ?_⟩
    rw [b3, vpN (by omega), nI_clamp (by omega), nI_1]
    refine ⟨by omega, fun J2 e2 I2 f2 t et => ?_⟩
    obtain ⟨g1, g2, g3⟩ := GfM.add b4 e2 f2
    rw [et, nI_1 l]
    have e : Z ++ (W.take (l + 1)).map (fun l => f ++ m ++ l) = Z ++ (W.take l).map (fun l => f ++ m ++ l) ++ [f ++ m ++ y] := by rw [ht]; simp
    exact ih (l + 1) I2 J2 ⟨by omega, b2.tr g1, by rw [e]; exact g2, by rw [e]; exact g3⟩ (by omega)
theorem m_su2 {i : Nat} {f : List Nat} {F M W Z : List (List Nat)} {I : MI} {J : MJ} {K : MI → MJ → Prop} (hP : PtS F M W I J) (hf : F[i]? = some f) (hl : Z.length + M.length * W.length ≤ 6000) (h2 : I 177 42 = nI Z.length) (hZ : WdA J 211 Z) (q : ∀ I' J', GfM 42 211 I I' J J' → I' 177 42 = nI (Z ++ M.flatMap (fun m => W.map (fun l => f ++ m ++ l))).length → WdA J' 211 (Z ++ M.flatMap (fun m => W.map (fun l => f ++ m ++ l))) → K I' J') : ∃ n, f_Model_findSuite_L75 (nI i) K n 0 I J := by
  refine lp3 (fun n (j : Nat) (I1 : MI) (J1 : MJ) => f_Model_findSuite_L75 (nI i) K n (nI j) I1 J1) (fun j I1 J1 => j ≤ M.length ∧ GfM 42 211 I I1 J J1 ∧ I1 177 42 = nI (Z ++ (M.take j).flatMap (fun m => W.map (fun l => f ++ m ++ l))).length ∧ WdA J1 211 (Z ++ (M.take j).flatMap (fun m => W.map (fun l => f ++ m ++ l)))) (fun j _ _ => M.length - j) ?_ 0 I J ⟨Nat.zero_le _, GfM.rf, by simpa using h2, by simpa using hZ⟩
  rintro n j I1 J1 ⟨b1, b2, b3, b4⟩ ih
  have hP1 := hP.kp b2
  obtain ⟨p1, p2, p3, p4, p5, p6, p7, p8, p9, p10, p11⟩ := id hP1
  unfold f_Model_findSuite_L75
  rw [p6]
  by_cases ej : j = M.length
  · rw [if_pos (by rw [ej]; exact Int32.le_refl _)]
    rw [ej, List.take_length] at b3 b4
    exact q I1 J1 b2 b3 b4
  · have hg := List.getElem?_eq_getElem (show j < M.length by omega)
    have ht : M.take (j + 1) = M.take j ++ [M[j]] := (List.take_append_getElem (show j < M.length by omega)).symm
    generalize M[j] = m at hg ht
    have hlen : (Z ++ (M.take j).flatMap (fun m => W.map (fun l => f ++ m ++ l))).length = Z.length + j * W.length := by
      rw [List.length_append, flat_len (c := W.length) _ (fun x _ => List.length_map _), List.length_take, Nat.min_eq_left b1]
    have hmul : j * W.length + W.length ≤ M.length * W.length := by have := Nat.mul_le_mul_right W.length (show j + 1 ≤ M.length by omega); rw [Nat.add_mul, Nat.one_mul] at this; exact this
    rw [if_neg (by rw [leNN (by omega) (by omega)]; omega)]
    refine m_su3 hP1 hf hg (by omega) b3 b4 (fun I2 J2 g1 g2 g3 => ?_)
    intro t et
    rw [et, nI_1 j]
    have e : Z ++ (M.take (j + 1)).flatMap (fun m => W.map (fun l => f ++ m ++ l)) = Z ++ (M.take j).flatMap (fun m => W.map (fun l => f ++ m ++ l)) ++ W.map (fun l => f ++ m ++ l) := by rw [ht, List.flatMap_append]; simp
    exact ih (j + 1) I2 J2 ⟨by omega, b2.tr g1, by rw [e]; exact g2, by rw [e]; exact g3⟩ (by omega)
def swL (F M W : List (List Nat)) : List (List Nat) := F.flatMap (fun f => M.flatMap (fun m => W.map (fun l => f ++ m ++ l)))
theorem m_su1 {F M W : List (List Nat)} {I : MI} {J : MJ} {K : MI → MJ → Prop} (hP : PtS F M W I J) (h2 : I 177 42 = 0) (q : ∀ I' J', GfM 42 211 I I' J J' → (swL F M W).length ≤ 4992 → I' 177 42 = nI (swL F M W).length → WdA J' 211 (swL F M W) → K I' J') : ∃ n, f_Model_findSuite_L64 K n 0 I J := by
  have hbd : ∀ X : List (List Nat), (X.flatMap (fun f => M.flatMap (fun m => W.map (fun l => f ++ m ++ l)))).length = X.length * (M.length * W.length) := fun X => flat_len X (fun x _ => flat_len M (fun y _ => List.length_map _))
  have hMW : M.length * W.length ≤ 13 * 16 := Nat.mul_le_mul hP.2.1 hP.2.2.1
  have hFMW : F.length * (M.length * W.length) ≤ 24 * (13 * 16) := Nat.mul_le_mul hP.1 hMW
  refine lp3 (fun n (i : Nat) (I1 : MI) (J1 : MJ) => f_Model_findSuite_L64 K n (nI i) I1 J1) (fun i I1 J1 => i ≤ F.length ∧ GfM 42 211 I I1 J J1 ∧ I1 177 42 = nI ((F.take i).flatMap (fun f => M.flatMap (fun m => W.map (fun l => f ++ m ++ l)))).length ∧ WdA J1 211 ((F.take i).flatMap (fun f => M.flatMap (fun m => W.map (fun l => f ++ m ++ l))))) (fun i _ _ => F.length - i) ?_ 0 I J ⟨Nat.zero_le _, GfM.rf, by rw [h2]; rfl, WdA.nil⟩
  rintro n i I1 J1 ⟨b1, b2, b3, b4⟩ ih
  have hP1 := hP.kp b2
  obtain ⟨p1, p2, p3, p4, p5, p6, p7, p8, p9, p10, p11⟩ := id hP1
  unfold f_Model_findSuite_L64
  rw [p4]
  by_cases ei : i = F.length
  · rw [if_pos (by rw [ei]; exact Int32.le_refl _)]
    rw [ei, List.take_length] at b3 b4
    exact q I1 J1 b2 (by unfold swL; rw [hbd]; omega) b3 b4
  · have hg := List.getElem?_eq_getElem (show i < F.length by omega)
    have ht : F.take (i + 1) = F.take i ++ [F[i]] := (List.take_append_getElem (show i < F.length by omega)).symm
    generalize F[i] = f at hg ht
    have hlen := hbd (F.take i)
    rw [List.length_take, Nat.min_eq_left b1] at hlen
    have hmul : i * (M.length * W.length) + M.length * W.length ≤ F.length * (M.length * W.length) := by have := Nat.mul_le_mul_right (M.length * W.length) (show i + 1 ≤ F.length by omega); rw [Nat.add_mul, Nat.one_mul] at this; exact this
    rw [if_neg (by rw [leNN (by omega) (by omega)]; omega)]
    refine m_su2 hP1 hg (by omega) b3 b4 (fun I2 J2 g1 g2 g3 => ?_)
    intro t et
    rw [et, nI_1 i]
    have e : (F.take (i + 1)).flatMap (fun f => M.flatMap (fun m => W.map (fun l => f ++ m ++ l))) = (F.take i).flatMap (fun f => M.flatMap (fun m => W.map (fun l => f ++ m ++ l))) ++ M.flatMap (fun m => W.map (fun l => f ++ m ++ l)) := by rw [ht, List.flatMap_append]; simp
    exact ih (i + 1) I2 J2 ⟨by omega, b2.tr g1, by rw [e]; exact g2, by rw [e]; exact g3⟩ (by omega)
theorem swL_mem {L : AM} {d : Nat} {W : List (List Nat)} (hW : ∀ w, w ∈ W ↔ isLa L w) (w : List Nat) : w ∈ swL (fsL L (aN L)) (mds d L.2.1) W ↔ isSW L d w := by
  unfold swL
  constructor
  · intro h
    obtain ⟨f, hf, h⟩ := List.mem_flatMap.mp h
    obtain ⟨m, hm, h⟩ := List.mem_flatMap.mp h
    obtain ⟨l, hl, rfl⟩ := List.mem_map.mp h
    exact ⟨f ++ m, l, ⟨f, m, (fsL_mem _).mp hf, hm, rfl⟩, (hW l).mp hl, rfl⟩
  · rintro ⟨g, l, ⟨f, m, hf, hm, rfl⟩, hl, rfl⟩
    exact List.mem_flatMap.mpr ⟨f, (fsL_mem _).mpr hf, List.mem_flatMap.mpr ⟨m, hm, List.mem_map.mpr ⟨l, (hW l).mpr hl, rfl⟩⟩⟩
/-! ordering -/
def RvA (J : MJ) (v : Nat → Nat) (N : Nat) : Prop := ∀ i, i < N → J 211 i = lN (v i) ∧ v i < 2 ^ 61
def upV (v : Nat → Nat) (h y : Nat) : Nat → Nat := fun i => if i = h then y else v i
theorem upV_at (v : Nat → Nat) (h y i : Nat) : upV v h y i = if i = h then y else v i := rfl
def SmV (N : Nat) (a b : Nat → Nat) : Prop := ∀ y, (∃ i, i < N ∧ a i = y) ↔ ∃ i, i < N ∧ b i = y
theorem SmV.rf {N : Nat} {a : Nat → Nat} : SmV N a a := fun _ => Iff.rfl
theorem SmV.tr {N : Nat} {a b c : Nat → Nat} (h : SmV N a b) (h' : SmV N b c) : SmV N a c := fun y => (h y).trans (h' y)
theorem upV_self (v : Nat → Nat) (x : Nat) : upV v x (v x) = v := by
  funext i
  rw [upV_at]
  split
  · rename_i e; rw [e]
  · rfl
theorem upV_move {v : Nat → Nat} {h g y N : Nat} (hg : 1 ≤ g) (hgh : g ≤ h) (hN : h < N) : SmV N (upV v h y) (upV (upV v h (v (h - g))) (h - g) y) := by
  intro z
  constructor
  · rintro ⟨i, hi, e⟩
    rw [upV_at] at e
    by_cases c : i = h
    · rw [if_pos c] at e
      exact ⟨h - g, by omega, by rw [upV_at, if_pos rfl]; exact e⟩
    · rw [if_neg c] at e
      by_cases c2 : i = h - g
      · refine ⟨h, hN, ?_⟩
        rw [upV_at, if_neg (by omega), upV_at, if_pos rfl, ← c2]
        exact e
      · refine ⟨i, hi, ?_⟩
        rw [upV_at, if_neg c2, upV_at, if_neg c]
        exact e
  · rintro ⟨i, hi, e⟩
    rw [upV_at, upV_at] at e
    by_cases c : i = h - g
    · rw [if_pos c] at e
      exact ⟨h, hN, by rw [upV_at, if_pos rfl]; exact e⟩
    · rw [if_neg c] at e
      by_cases c2 : i = h
      · rw [if_pos c2] at e
        refine ⟨h - g, by omega, ?_⟩
        rw [upV_at, if_neg (by omega)]
        exact e
      · rw [if_neg c2] at e
        refine ⟨i, hi, ?_⟩
        rw [upV_at, if_neg c2]
        exact e
def Srt (v : Nat → Nat) (n : Nat) : Prop := ∀ i j, i < j → j < n → v i ≤ v j
def SrH (v : Nat → Nat) (h x y : Nat) : Prop := (∀ i j, i < j → j ≤ x → i ≠ h → j ≠ h → v i ≤ v j) ∧ ∀ j, h < j → j ≤ x → y ≤ v j
theorem SrH.fin {v : Nat → Nat} {h x y : Nat} (hx : h ≤ x) (k : SrH v h x y) (hh : h = 0 ∨ v (h - 1) ≤ y) : Srt (upV v h y) (x + 1) := by
  intro i j hij hj
  rw [upV_at, upV_at]
  by_cases ci : i = h
  · rw [if_pos ci, if_neg (by omega)]
    exact k.2 j (by omega) (by omega)
  · rw [if_neg ci]
    by_cases cj : j = h
    · rw [if_pos cj]
      rcases hh with h0 | hle
      · omega
      · by_cases c : i = h - 1
        · rw [c]; exact hle
        · exact Nat.le_trans (k.1 i (h - 1) (by omega) (by omega) ci (by omega)) hle
    · rw [if_neg cj]
      exact k.1 i j hij (by omega) ci cj
theorem SrH.move {v : Nat → Nat} {h x y : Nat} (hx : h ≤ x) (h1 : 1 ≤ h) (k : SrH v h x y) (hy : y ≤ v (h - 1)) : SrH (upV v h (v (h - 1))) (h - 1) x y := by
  refine ⟨fun i j hij hj hi' hj' => ?_, fun j hj hjx => ?_⟩
  · rw [upV_at, upV_at]
    by_cases ci : i = h
    · rw [if_pos ci, if_neg (by omega)]
      exact k.1 (h - 1) j (by omega) hj (by omega) (by omega)
    · rw [if_neg ci]
      by_cases cj : j = h
      · rw [if_pos cj]
        exact k.1 i (h - 1) (by omega) (by omega) ci (by omega)
      · rw [if_neg cj]
        exact k.1 i j hij hj ci cj
  · rw [upV_at]
    by_cases cj : j = h
    · rw [if_pos cj]; exact hy
    · rw [if_neg cj]; exact k.2 j (by omega) hjx
theorem m_ins {g x N : Nat} {v : Nat → Nat} {I : MI} {J : MJ} {K : Int32 → MI → MJ → Prop} (hg : 1 ≤ g) (hg2 : g ≤ 6000) (hx : x < N) (hN : N ≤ 6000) (hv : RvA J v N) (q : ∀ h v' J', h ≤ x → RvA J' v' N → (∀ i, i ≠ 211 → J' i = J i) → SmV N v (upV v' h (v x)) → (g = 1 → Srt v x → Srt (upV v' h (v x)) (x + 1)) → K (nI h) I J') : ∃ n, f_Model_order_L31 (nI g) (lN (v x)) K n (nI x) I J := by
  have hvx := (hv x hx).2
  refine lp3 (fun n (h : Nat) (v' : Nat → Nat) (J1 : MJ) => f_Model_order_L31 (nI g) (lN (v x)) K n (nI h) I J1) (fun h v' J1 => h ≤ x ∧ RvA J1 v' N ∧ (∀ i, i ≠ 211 → J1 i = J i) ∧ SmV N v (upV v' h (v x)) ∧ (g = 1 → Srt v x → SrH v' h x (v x))) (fun h _ _ => h) ?_ x v J ⟨Nat.le_refl _, hv, fun _ _ => rfl, by rw [upV_self]; exact SmV.rf, fun _ hs => ⟨fun i j hij hj hi' hj' => hs i j hij (by omega), fun j hj hjx => by omega⟩⟩
  rintro n h v' J1 ⟨b1, b2, b3, b4, b5⟩ ih
  unfold f_Model_order_L31
  by_cases hlt : h < g
  · rw [if_pos (by rw [ltNN (by omega) (by omega)]; exact hlt)]
    exact q h v' J1 b1 b2 b3 b4 (fun e hs => (b5 e hs).fin b1 (Or.inl (by omega)))
  · obtain ⟨c1, c2⟩ := b2 (h - g) (by omega)
    rw [if_neg (by rw [ltNN (by omega) (by omega)]; exact hlt), pk_sub (by omega), vpN (by omega), nI_clamp (by omega), c1]
    refine ⟨by omega, ?_⟩
    by_cases hle : v' (h - g) ≤ v x
    · rw [if_pos ((pk_lLE (by omega) (by omega)).mpr hle)]
      exact q h v' J1 b1 b2 b3 b4 (fun e hs => (b5 e hs).fin b1 (Or.inr (by rw [← e]; exact hle)))
    · rw [if_neg (fun hh => hle ((pk_lLE (by omega) (by omega)).mp hh)), vpN (by omega), nI_clamp (by omega)]
      refine ⟨by omega, by omega, fun J2 e2 t et => ?_⟩
      rw [et]
      have m2 : ∀ j, J2 211 j = if j = h then lN (v' (h - g)) else J1 211 j := fun j => by rw [e2, sJ_s, updL_at]
      refine ih (h - g) (upV v' h (v' (h - g))) J2 ⟨by omega, fun i hi => ?_, fun i hi => by rw [e2, sJ_n _ _ hi, b3 i hi], b4.tr (upV_move hg (by omega) (by omega)), fun e hs => ?_⟩ (by omega)
      · rw [m2, upV_at]
        by_cases c : i = h
        · rw [if_pos c, if_pos c]; exact ⟨rfl, c2⟩
        · rw [if_neg c, if_neg c]; exact b2 i hi
      · subst e
        exact (b5 rfl hs).move b1 (by omega) (by omega)
theorem m_pass {g N : Nat} {v : Nat → Nat} {I : MI} {J : MJ} {K : MI → MJ → Prop} (hg : 1 ≤ g) (hgN : g ≤ N) (hN : N ≤ 6000) (h2 : I 177 42 = nI N) (hv : RvA J v N) (q : ∀ v' J', RvA J' v' N → (∀ i, i ≠ 211 → J' i = J i) → SmV N v v' → (g = 1 → Srt v' N) → K I J') : ∃ n, f_Model_order_L13 (nI g) K n (nI g) I J := by
  refine lp3 (fun n (x : Nat) (v' : Nat → Nat) (J1 : MJ) => f_Model_order_L13 (nI g) K n (nI x) I J1) (fun x v' J1 => g ≤ x ∧ x ≤ N ∧ RvA J1 v' N ∧ (∀ i, i ≠ 211 → J1 i = J i) ∧ SmV N v v' ∧ (g = 1 → Srt v' x)) (fun x _ _ => N - x) ?_ g v J ⟨Nat.le_refl _, hgN, hv, fun _ _ => rfl, SmV.rf, fun e i j hij hj => by omega⟩
  rintro n x v' J1 ⟨b0, b1, b2, b3, b4, b5⟩ ih
  unfold f_Model_order_L13
  rw [h2]
  by_cases ex : x = N
  · rw [if_pos (by rw [ex]; exact Int32.le_refl _)]
    rw [ex] at b5
    exact q v' J1 b2 b3 b4 b5
  · rw [if_neg (by rw [leNN (by omega) (by omega)]; omega), vpN (by omega), nI_clamp (by omega), (b2 x (by omega)).1]
    refine ⟨by omega, fun t et => ?_⟩
    rw [et]
    refine m_ins hg (by omega) (show x < N by omega) hN b2 (fun h w J2 c1 c2 c3 c4 c5 => ?_)
    unfold f_Model_order_b76
    rw [vpN (by omega), nI_clamp (by omega)]
    refine ⟨by omega, fun J3 e3 t' et' => ?_⟩
    rw [et', nI_1 x]
    have m3 : ∀ j, J3 211 j = if j = h then lN (v' x) else J2 211 j := fun j => by rw [e3, sJ_s, updL_at]
    refine ih (x + 1) (upV w h (v' x)) J3 ⟨by omega, by omega, fun i hi => ?_, fun i hi => by rw [e3, sJ_n _ _ hi, c3 i hi, b3 i hi], b4.tr c4, fun e => c5 e (b5 e)⟩ (by omega)
    rw [m3, upV_at]
    by_cases c : i = h
    · rw [if_pos c, if_pos c]; exact ⟨rfl, (b2 x (by omega)).2⟩
    · rw [if_neg c, if_neg c]; exact c2 i hi
theorem m_shell {N : Nat} {v : Nat → Nat} {I : MI} {J : MJ} {K : MI → MJ → Prop} (hN : N ≤ 6000) (h2 : I 177 42 = nI N) (hv : RvA J v N) (q : ∀ v' J', RvA J' v' N → (∀ i, i ≠ 211 → J' i = J i) → SmV N v v' → Srt v' N → K I J') : ∃ n, f_Model_order_L7 K n (nI (N / 2)) I J := by
  refine lp3 (fun n (g : Nat) (v' : Nat → Nat) (J1 : MJ) => f_Model_order_L7 K n (nI g) I J1) (fun g v' J1 => g ≤ N ∧ RvA J1 v' N ∧ (∀ i, i ≠ 211 → J1 i = J i) ∧ SmV N v v' ∧ (g = 0 → Srt v' N)) (fun g _ _ => g) ?_ (N / 2) v J ⟨by omega, hv, fun _ _ => rfl, SmV.rf, fun e i j hij hj => by omega⟩
  rintro n g v' J1 ⟨b1, b2, b3, b4, b5⟩ ih
  unfold f_Model_order_L7
  by_cases eg : g = 0
  · rw [if_pos (by rw [eg]; exact Int32.le_refl _)]
    exact q v' J1 b2 b3 b4 (b5 eg)
  · rw [if_neg (by rw [l0, leNN (by omega) (by decide)]; omega)]
    refine m_pass (by omega) b1 hN h2 b2 (fun w J2 c1 c2 c3 c4 => ?_)
    intro t et
    rw [et, l2, pk_div (by omega) (by decide) (by decide)]
    exact ih (g / 2) w J2 ⟨by omega, c1, fun i hi => by rw [c2 i hi, b3 i hi], b4.tr c3, fun e => c4 (by omega)⟩ (by omega)
def Inc (u : Nat → Nat) (c : Nat) : Prop := ∀ i j, i < j → j < c → u i < u j
theorem m_dedup {N : Nat} {v : Nat → Nat} {I : MI} {J : MJ} {K : Int32 → MI → MJ → Prop} (hN : N ≤ 6000) (h2 : I 177 42 = nI N) (hv : RvA J v N) (hs : Srt v N) (q : ∀ c u J', c ≤ N → RvA J' u c → Inc u c → (∀ y, (∃ i, i < c ∧ u i = y) ↔ ∃ i, i < N ∧ v i = y) → (∀ i, i ≠ 211 → J' i = J i) → K (nI c) I J') : ∃ n, f_Model_order_L101 K n 0 0 I J := by
  refine lp4 (fun n (i c : Nat) (u : Nat → Nat) (J1 : MJ) => f_Model_order_L101 K n (nI c) (nI i) I J1) (fun i c u J1 => i ≤ N ∧ c ≤ i ∧ (c = 0 → i = 0) ∧ RvA J1 u c ∧ (∀ j, i ≤ j → j < N → J1 211 j = lN (v j)) ∧ Inc u c ∧ (∀ y, (∃ j, j < c ∧ u j = y) ↔ ∃ j, j < i ∧ v j = y) ∧ ∀ j, j ≠ 211 → J1 j = J j) (fun i _ _ _ => N - i) ?_ 0 0 (fun _ => 0) J ⟨Nat.zero_le _, Nat.le_refl _, fun _ => rfl, (fun i hi => absurd hi (Nat.not_lt_zero _)), fun j _ hj => (hv j hj).1, (fun i j _ hj => absurd hj (Nat.not_lt_zero _)), (fun y => ⟨fun ⟨j, hj, _⟩ => absurd hj (Nat.not_lt_zero _), fun ⟨j, hj, _⟩ => absurd hj (Nat.not_lt_zero _)⟩), fun _ _ => rfl⟩
  rintro n i c u J1 ⟨b1, b2, b3, b4, b5, b6, b7, b8⟩ ih
  unfold f_Model_order_L101
  rw [h2]
  by_cases ei : i = N
  · rw [if_pos (by rw [ei]; exact Int32.le_refl _)]
    rw [ei] at b7
    exact q c u J1 (by omega) b4 b6 b7 b8
  · have hvi := (hv i (by omega)).2
    rw [if_neg (by rw [leNN (by omega) (by omega)]; omega)]
    have wr : (∀ j, j < c → u j < v i) → f_Model_order_b131 (nI c) (nI i) (f_Model_order_L101 K n) I J1 := fun hlt => by
      unfold f_Model_order_b131
      rw [vpN (by omega), vpN (by omega), nI_clamp (by omega), nI_clamp (by omega), b5 i (Nat.le_refl _) (by omega)]
      refine ⟨by omega, by omega, fun J2 e2 t et => ?_⟩
      unfold f_Model_order_b146
      intro t' et'
      rw [et, et', nI_1 c, nI_1 i]
      have m2 : ∀ j, J2 211 j = if j = c then lN (v i) else J1 211 j := fun j => by rw [e2, sJ_s, updL_at]
      refine ih (i + 1) (c + 1) (upV u c (v i)) J2 ⟨by omega, by omega, fun hh => by omega, fun j hj => ?_, fun j h1 h2' => ?_, fun j j' h1 h2' => ?_, fun y => ⟨?_, ?_⟩, fun j hj => by rw [e2, sJ_n _ _ hj, b8 j hj]⟩ (by omega)
      · rw [m2, upV_at]
        by_cases e : j = c
        · rw [if_pos e, if_pos e]; exact ⟨rfl, hvi⟩
        · rw [if_neg e, if_neg e]; exact b4 j (by omega)
      · rw [m2, if_neg (by omega)]; exact b5 j (by omega) h2'
      · rw [upV_at, upV_at, if_neg (by omega)]
        by_cases e : j' = c
        · rw [if_pos e]; exact hlt j (by omega)
        · rw [if_neg e]; exact b6 j j' h1 (by omega)
      · rintro ⟨j, hj, e⟩
        rw [upV_at] at e
        by_cases ejc : j = c
        · rw [if_pos ejc] at e; exact ⟨i, by omega, e⟩
        · rw [if_neg ejc] at e
          obtain ⟨j', h1, h2'⟩ := (b7 y).mp ⟨j, by omega, e⟩
          exact ⟨j', by omega, h2'⟩
      · rintro ⟨j, hj, e⟩
        by_cases eji : j = i
        · exact ⟨c, by omega, by rw [upV_at, if_pos rfl, ← eji]; exact e⟩
        · obtain ⟨j', h1, h2'⟩ := (b7 y).mpr ⟨j, by omega, e⟩
          exact ⟨j', by omega, by rw [upV_at, if_neg (by omega)]; exact h2'⟩
    by_cases c0 : c = 0
    · rw [if_pos (by rw [c0]; rfl)]
      exact wr (fun j hj => by omega)
    · obtain ⟨d1, d2⟩ := b4 (c - 1) (by omega)
      rw [if_neg (nI_ne0 (by omega) (by omega)), l1, pk_sub (by omega), vpN (by omega), vpN (by omega), nI_clamp (by omega), nI_clamp (by omega), d1, b5 i (Nat.le_refl _) (by omega)]
      refine ⟨by omega, by omega, ?_⟩
      by_cases e : u (c - 1) = v i
      · rw [if_pos (by rw [e])]
        unfold f_Model_order_b146
        intro t et
        rw [et, nI_1 i]
        refine ih (i + 1) c u J1 ⟨by omega, by omega, fun hh => by omega, b4, fun j h1 h2' => b5 j (by omega) h2', b6, fun y => ⟨fun hh => ?_, ?_⟩, b8⟩ (by omega)
        · obtain ⟨j', h1, h2'⟩ := (b7 y).mp hh
          exact ⟨j', by omega, h2'⟩
        · rintro ⟨j, hj, ej⟩
          by_cases eji : j = i
          · exact ⟨c - 1, by omega, by rw [e, ← eji]; exact ej⟩
          · exact (b7 y).mpr ⟨j, by omega, ej⟩
      · rw [if_neg (fun hh => e ((pk_lEQ (by omega) (by omega)).mp hh))]
        refine wr (fun j hj => ?_)
        have hlast : u (c - 1) < v i := by
          obtain ⟨j', h1, h2'⟩ := (b7 (u (c - 1))).mp ⟨c - 1, by omega, rfl⟩
          have := hs j' i h1 (by omega)
          omega
        by_cases ej : j = c - 1
        · rw [ej]; exact hlast
        · have := b6 j (c - 1) (by omega) (by omega)
          omega
theorem m_order {N : Nat} {v : Nat → Nat} {I : MI} {J : MJ} {Q : MI → MJ → Prop} (hN : N ≤ 6000) (h2 : I 177 42 = nI N) (hv : RvA J v N) (q : ∀ c u I' J', c ≤ N → RvA J' u c → Inc u c → (∀ y, (∃ i, i < c ∧ u i = y) ↔ ∃ i, i < N ∧ v i = y) → GfM 42 211 I I' J J' → I' 177 42 = nI c → Q I' J') : f_Model_order I J Q := by
  unfold f_Model_order
  rw [h2, l2, pk_div (by omega) (by decide) (by decide)]
  intro t et
  rw [et]
  refine m_shell hN h2 hv (fun w J1 a1 a2 a3 a4 => ?_)
  refine m_dedup hN h2 a1 a4 (fun c u J2 c1 c2 c3 c4 c5 => ?_)
  intro I1 e1
  refine q c u I1 J2 c1 c2 c3 (fun y => by rw [c4, ← a3 y]) ⟨fun i hi => by rw [e1, sI_n _ _ hi], fun k hk => by rw [e1, sI_s, pk_un hk], fun i hi => by rw [c5 i hi, a2 i hi]⟩ (by rw [e1, sI_s, pk_us])
