/-! SUITE: the first failure, the class -/
noncomputable section
def swP (L B : AM) (d : Nat) (w : List Nat) : Prop := isSW L d w ∧ ansF L (0, 0) w ≠ ansF B (0, 0) w
def opSuite (x y : Int32) (σ : SG) : Int32 := match maC σ x with
  | none => -1
  | some A => by classical exact if y < 0 then -1 else if 2 < y then -1 else if grt A then -1 else if 6 < aN (leastA A) then -1 else if (leastA A).2.1 ≤ 3 then nI (cntP (isSW (leastA A) y.toNatClampNeg)) else -1
def opPasses (x z y : Int32) (σ : SG) : Int64 := match maC σ z with
  | none => -1
  | some B => match maC σ x with
    | none => -1
    | some A => by classical exact if y < 0 then -1 else if 2 < y then -1 else if grt A then -1 else if 6 < aN (leastA A) then -1 else if (leastA A).2.1 ≤ 3 then oL (leastN (WdP (swP (leastA A) B y.toNatClampNeg))) else -1
end
/-- what a first failure is, among the words looked at -/
def ffI (L B : AM) (o : Option (List Nat)) (P : List Nat → Prop) : Prop := match o with
  | none => ∀ w, P w → ansF L (0, 0) w = ansF B (0, 0) w
  | some v => P v ∧ ansF L (0, 0) v ≠ ansF B (0, 0) v ∧ ∀ w, P w → ansF L (0, 0) w ≠ ansF B (0, 0) w → num v ≤ num w
def oW : Option (List Nat) → Int64
  | none => 0
  | some w => lN (num w)
theorem ffI.cg {L B : AM} {o : Option (List Nat)} {P P' : List Nat → Prop} (h : ffI L B o P) (e : ∀ w, P w ↔ P' w) : ffI L B o P' := by
  have : P = P' := funext (fun w => propext (e w))
  rw [← this]
  exact h
/-- one more word that is answered alike, or not sooner -/
theorem ffI.skip {L B : AM} {o : Option (List Nat)} {P : List Nat → Prop} {v : List Nat} (h : ffI L B o P) (hv : ansF L (0, 0) v = ansF B (0, 0) v ∨ ∃ u, o = some u ∧ num u ≤ num v) : ffI L B o (fun w => P w ∨ w = v) := by
  cases o with
  | none =>
    intro w hw
    rcases hw with hw | rfl
    · exact h w hw
    · rcases hv with hv | ⟨u, hu, _⟩
      · exact hv
      · cases hu
  | some u =>
    obtain ⟨h1, h2, h3⟩ := h
    refine ⟨Or.inl h1, h2, fun w hw hne => ?_⟩
    rcases hw with hw | rfl
    · exact h3 w hw hne
    · rcases hv with hv | ⟨u', hu, hle⟩
      · exact absurd hv hne
      · cases hu; exact hle
theorem ffI.take {L B : AM} {o : Option (List Nat)} {P : List Nat → Prop} {v : List Nat} (h : ffI L B o P) (hv : ansF L (0, 0) v ≠ ansF B (0, 0) v) (hs : ∀ u, o = some u → num v < num u) : ffI L B (some v) (fun w => P w ∨ w = v) := by
  refine ⟨Or.inr rfl, hv, fun w hw hne => ?_⟩
  rcases hw with hw | rfl
  · cases o with
    | none => exact absurd (h w hw) hne
    | some u =>
      have := h.2.2 w hw hne
      have := hs u rfl
      omega
  · exact Nat.le_refl _
theorem ffI.end {L B : AM} {o : Option (List Nat)} {d : Nat} (ho : ∀ w, isSW L d w → wOk w) (h : ffI L B o (isSW L d)) : oL (leastN (WdP (swP L B d))) = oW o := by
  cases o with
  | none =>
    rw [leastN_n (fun n hn => ?_)]
    · rfl
    · obtain ⟨w, w1, w2, w3, w4⟩ := hn
      exact w4 (h w w3)
  | some v =>
    obtain ⟨h1, h2, h3⟩ := h
    rw [leastN_s (n := num v) ⟨v, (ho v h1).2, rfl, h1, h2⟩ (fun m hm hn => ?_)]
    · rfl
    · obtain ⟨w, w1, w2, w3, w4⟩ := hn
      have := h3 w w3 w4
      omega
theorem ansF_app2 {A : AM} {x : Nat × Nat} {f l : List Nat} : ansF A x (f ++ l) = anO A ((run A x f).bind (fun y => run A y l)) := by
  rw [ansF_o, run_app]
theorem s_unl2 {o : Nat} {L B : AM} {x y : Option (Nat × Nat)} {l : List Nat} {I : MI} {J : MJ} {Q : Int32 → MI → MJ → Prop} (hL : RepC I 27 L) (hB : RepC I o B) (hv : VA L) (hw : VA B) (hx : okSp L x) (hy : okSp B y) (hl : wOk l) (q : Q (if anO L (x.bind (fun z => run L z l)) = anO B (y.bind (fun z => run B z l)) then 0 else 1) I J) : f_Suite_areUnlike (enP x) o (enP y) (lN (num l)) I J Q := by
  unfold f_Suite_areUnlike
  have k1 : anO L (x.bind (fun z => run L z l)) ≤ 8 := by
    cases hr : x.bind (fun z => run L z l) with
    | none => exact Nat.le_refl _
    | some z =>
      have := okSp_run hv hx l z hr
      have := anS_8 hv this.1
      show anS L z.1 ≤ 8
      omega
  have k2 : anO B (y.bind (fun z => run B z l)) ≤ 8 := by
    cases hr : y.bind (fun z => run B z l) with
    | none => exact Nat.le_refl _
    | some z =>
      have := okSp_run hw hy l z hr
      have := anS_8 hw this.1
      show anS B z.1 ≤ 8
      omega
  refine s_runO hL hv hx hl ?_
  rw [s_ansAt hL hv (okSp_run hv hx l)]
  refine s_runO hB hw hy hl ?_
  rw [s_ansAt hB hw (okSp_run hw hy l)]
  by_cases e : anO L (x.bind (fun z => run L z l)) = anO B (y.bind (fun z => run B z l))
  · rw [if_pos e] at q
    rw [if_pos (by rw [e])]
    exact q
  · rw [if_neg e] at q
    rw [if_neg (by rw [eqNN (by omega) (by omega)]; exact e)]
    exact q
/-- the words looked at before (i, j) -/
def fwI (H W : List (List Nat)) (i j : Nat) (w : List Nat) : Prop := ∃ (i' j' : Nat) (f l : List Nat), H[i']? = some f ∧ W[j']? = some l ∧ (i' < i ∨ (i' = i ∧ j' < j)) ∧ w = f ++ l
theorem fwI_s {H W : List (List Nat)} {i j : Nat} {f l : List Nat} (hf : H[i]? = some f) (hl : W[j]? = some l) (w : List Nat) : (fwI H W i j w ∨ w = f ++ l) ↔ fwI H W i (j + 1) w := by
  constructor
  · rintro (⟨i', j', f', l', a, b, c, d⟩ | e)
    · exact ⟨i', j', f', l', a, b, by omega, d⟩
    · exact ⟨i, j, f, l, hf, hl, Or.inr ⟨rfl, by omega⟩, e⟩
  · rintro ⟨i', j', f', l', a, b, c, d⟩
    by_cases c2 : i' = i ∧ j' = j
    · obtain ⟨rfl, rfl⟩ := c2
      rw [hf] at a; rw [hl] at b
      cases a; cases b
      exact Or.inr d
    · exact Or.inl ⟨i', j', f', l', a, b, by omega, d⟩
theorem fwI_e {H W : List (List Nat)} {i : Nat} (w : List Nat) : fwI H W i W.length w ↔ fwI H W (i + 1) 0 w := by
  constructor
  · rintro ⟨i', j', f', l', a, b, c, d⟩
    exact ⟨i', j', f', l', a, b, by omega, d⟩
  · rintro ⟨i', j', f', l', a, b, c, d⟩
    have := (List.getElem?_eq_some_iff.mp b).1
    exact ⟨i', j', f', l', a, b, by omega, d⟩
theorem s_ff_in {o i : Nat} {L B : AM} {f : List Nat} {H W : List (List Nat)} {o0 : Option (List Nat)} {I : MI} {J : MJ} {K : Int64 → MI → MJ → Prop} (hL : RepC I 27 L) (hB : RepC I o B) (hv : VA L) (hw : VA B) (hH : H.length ≤ 175) (hW : W.length ≤ 6) (h1 : WdA J 33 H) (h3 : I 26 3 = nI W.length) (h2 : WdA J 35 W) (ho : ∀ v ∈ H, v.length ≤ 8 ∧ ∀ a ∈ v, a < 4) (ho2 : ∀ v ∈ W, v.length ≤ 5 ∧ ∀ a ∈ v, a < 4) (hf : H[i]? = some f) (hb : ∀ u, o0 = some u → wOk u) (hI : ffI L B o0 (fwI H W i 0)) (q : ∀ o', (∀ u, o' = some u → wOk u) → ffI L B o' (fwI H W (i + 1) 0) → K (oW o') I J) : ∃ n, f_Suite_firstFailure_L48 o (nI i) (enP (run L (0, 0) f)) (enP (run B (0, 0) f)) K n (oW o0) 0 I J := by
  have hi := (List.getElem?_eq_some_iff.mp hf).1
  have hfo := ho f (List.mem_of_getElem? hf)
  have okL : okSp L (run L (0, 0) f) := okSp_run hv (okSp_0 hv) f
  have okB : okSp B (run B (0, 0) f) := okSp_run hw (okSp_0 hw) f
  refine lp2 (fun n (j : Nat) (o1 : Option (List Nat)) => f_Suite_firstFailure_L48 o (nI i) (enP (run L (0, 0) f)) (enP (run B (0, 0) f)) K n (oW o1) (nI j) I J) (fun j o1 => j ≤ W.length ∧ (∀ u, o1 = some u → wOk u) ∧ ffI L B o1 (fwI H W i j)) (fun j _ => W.length - j) ?_ 0 o0 ⟨Nat.zero_le _, hb, hI⟩
  rintro n j o1 ⟨b1, b2, b3⟩ ih
  unfold f_Suite_firstFailure_L48
  rw [h3]
  by_cases ej : j = W.length
  · rw [if_pos (by rw [ej]; exact Int32.le_refl _)]
    rw [ej] at b3
    exact q o1 b2 (b3.cg fwI_e)
  · have hg := List.getElem?_eq_getElem (show j < W.length by omega)
    generalize W[j] = l at hg
    have hlo := ho2 l (List.mem_of_getElem? hg)
    have wl : wOk l := ⟨by omega, hlo.2⟩
    have wfl : wOk (f ++ l) := wOk_app ⟨by omega, hfo.2⟩ wl (by omega)
    have h61 := num_60 wfl
    rw [if_neg (by rw [leNN (by omega) (by omega)]; omega)]
    have next : ∀ o2, (∀ u, o2 = some u → wOk u) → ffI L B o2 (fun w => fwI H W i j w ∨ w = f ++ l) → f_Suite_firstFailure_b135 (oW o2) (nI j) (f_Suite_firstFailure_L48 o (nI i) (enP (run L (0, 0) f)) (enP (run B (0, 0) f)) K n) I J := fun o2 k1 k2 => by
      unfold f_Suite_firstFailure_b135
      intro t et
      rw [et, nI_1 j]
      exact ih (j + 1) o2 ⟨by omega, k1, k2.cg (fwI_s hf hg)⟩ (by omega)
    have body : f_Suite_firstFailure_b69 o (oW o1) (nI i) (enP (run L (0, 0) f)) (enP (run B (0, 0) f)) (nI j) (f_Suite_firstFailure_L48 o (nI i) (enP (run L (0, 0) f)) (enP (run B (0, 0) f)) K n) I J := by
      have look : (∀ u, o1 = some u → num (f ++ l) < num u) → f_Suite_firstFailure_b101 o (oW o1) (enP (run L (0, 0) f)) (enP (run B (0, 0) f)) (nI j) (lN (num (f ++ l))) (f_Suite_firstFailure_L48 o (nI i) (enP (run L (0, 0) f)) (enP (run B (0, 0) f)) K n) I J := fun hs => by
        unfold f_Suite_firstFailure_b101 f_Suite_firstFailure_b106
        rw [if_neg (show ¬ (1 : Int32) = 0 by decide), vpN (by omega), nI_clamp (by omega), h2 j l hg]
        refine ⟨by omega, s_unl2 hL hB hv hw okL okB wl ?_⟩
        rw [← ansF_app2, ← ansF_app2]
        by_cases e : ansF L (0, 0) (f ++ l) = ansF B (0, 0) (f ++ l)
        · rw [if_pos e, if_pos rfl]
          exact next o1 b2 (b3.skip (Or.inl e))
        · rw [if_neg e, if_neg (by decide)]
          exact next (some (f ++ l)) (fun u hu => by cases hu; exact wfl) (b3.take e hs)
      unfold f_Suite_firstFailure_b69
      rw [vpN (by omega), vpN (by omega), nI_clamp (by omega), nI_clamp (by omega), h1 i f hf, h2 j l hg]
      refine ⟨by omega, by omega, s_join wl ?_⟩
      cases o1 with
      | none =>
        rw [if_pos (show oW none = 0 from rfl)]
        exact look (fun u hu => by cases hu)
      | some u =>
        have hu := b2 u rfl
        have hu61 := num_60 hu
        rw [if_neg (show ¬ oW (some u) = 0 from num_ne0 hu)]
        by_cases hle : num u ≤ num (f ++ l)
        · rw [if_pos (show oW (some u) ≤ lN (num (f ++ l)) from (pk_lLE (by omega) (by omega)).mpr hle)]
          unfold f_Suite_firstFailure_b106
          rw [if_pos rfl]
          exact next (some u) b2 (b3.skip (Or.inr ⟨u, rfl, hle⟩))
        · rw [if_neg (show ¬ oW (some u) ≤ lN (num (f ++ l)) from fun hh => hle ((pk_lLE (by omega) (by omega)).mp hh))]
          exact look (fun u' hu' => by cases hu'; omega)
    by_cases ex : enP (run L (0, 0) f) = -1
    · by_cases ey : enP (run B (0, 0) f) = -1
      · rw [if_pos ex, if_pos ey]
        refine q o1 b2 ?_
        -- both run nowhere: all words of this head are answered alike
        have hxn := (enP_m1 hv okL).mp ex
        have hyn := (enP_m1 hw okB).mp ey
        have hall : ∀ l', ansF L (0, 0) (f ++ l') = ansF B (0, 0) (f ++ l') := fun l' => by rw [ansF_app2, ansF_app2, hxn, hyn]; rfl
        have hsk : ∀ m, j + m ≤ W.length → ffI L B o1 (fwI H W i (j + m)) := by
          intro m
          induction m with
          | zero => intro _; exact b3
          | succ m ihm =>
            intro hm
            have hg' := List.getElem?_eq_getElem (show j + m < W.length by omega)
            exact ((ihm (by omega)).skip (Or.inl (hall _))).cg (fwI_s hf hg')
        have := hsk (W.length - j) (by omega)
        rw [show j + (W.length - j) = W.length by omega] at this
        exact this.cg fwI_e
      · rw [if_pos ex, if_neg ey]
        exact body
    · rw [if_neg ex]
      exact body
theorem s_ff {o d : Nat} {L B : AM} {H W : List (List Nat)} {I : MI} {J : MJ} {Q : Int64 → MI → MJ → Prop} (hL : RepC I 27 L) (hB : RepC I o B) (hv : VA L) (hw : VA B) (hH : H.length ≤ 175) (hW : W.length ≤ 6) (h0 : I 26 1 = nI H.length) (h1 : WdA J 33 H) (h3 : I 26 3 = nI W.length) (h2 : WdA J 35 W) (ho : ∀ v ∈ H, v.length ≤ 8 ∧ ∀ a ∈ v, a < 4) (ho2 : ∀ v ∈ W, v.length ≤ 5 ∧ ∀ a ∈ v, a < 4) (hsw : ∀ w, isSW L d w ↔ ∃ f ∈ H, ∃ l ∈ W, w = f ++ l) (q : Q (oL (leastN (WdP (swP L B d)))) I J) : f_Suite_firstFailure o I J Q := by
  unfold f_Suite_firstFailure
  refine lp2 (fun n (i : Nat) (o1 : Option (List Nat)) => f_Suite_firstFailure_L5 o _ n (oW o1) (nI i) I J) (fun i o1 => i ≤ H.length ∧ (∀ u, o1 = some u → wOk u) ∧ ffI L B o1 (fwI H W i 0)) (fun i _ => H.length - i) ?_ 0 none ⟨Nat.zero_le _, (fun u hu => by cases hu), (fun w hw => by obtain ⟨i', j', f', l', a, b, c, e⟩ := hw; omega)⟩
  rintro n i o1 ⟨b1, b2, b3⟩ ih
  unfold f_Suite_firstFailure_L5
  rw [h0]
  by_cases ei : i = H.length
  · rw [if_pos (by rw [ei]; exact Int32.le_refl _)]
    rw [ffI.end (o := o1) (fun w hw' => ?_) (b3.cg (fun w => ?_))] at q
    · exact q
    · obtain ⟨f, hf, l, hl, rfl⟩ := (hsw w).mp hw'
      have k1 := ho f hf
      have k2 := ho2 l hl
      exact wOk_app ⟨by omega, k1.2⟩ ⟨by omega, k2.2⟩ (by omega)
    · rw [hsw]
      constructor
      · rintro ⟨i', j', f', l', a, b, c, e⟩
        exact ⟨f', List.mem_of_getElem? a, l', List.mem_of_getElem? b, e⟩
      · rintro ⟨f', a, l', b, e⟩
        obtain ⟨i', hi'⟩ := List.mem_iff_getElem?.mp a
        obtain ⟨j', hj'⟩ := List.mem_iff_getElem?.mp b
        exact ⟨i', j', f', l', hi', hj', Or.inl (by have := (List.getElem?_eq_some_iff.mp hi').1; omega), e⟩
  · have hg := List.getElem?_eq_getElem (show i < H.length by omega)
    generalize H[i] = f at hg
    have hfo := ho f (List.mem_of_getElem? hg)
    have wf : wOk f := ⟨by omega, hfo.2⟩
    rw [if_neg (by rw [leNN (by omega) (by omega)]; omega), vpN (by omega), nI_clamp (by omega), h1 i f hg]
    refine ⟨by omega, s_runO (x := some (0, 0)) hL hv (okSp_0 hv) wf ?_⟩
    rw [h1 i f hg]
    refine ⟨by omega, s_runO (x := some (0, 0)) hB hw (okSp_0 hw) wf ?_⟩
    refine s_ff_in hL hB hv hw hH hW h1 h3 h2 ho ho2 hg b2 b3 (fun o' k1 k2 => ?_)
    unfold f_Suite_firstFailure_b141
    intro t et
    rw [et, nI_1 i]
    exact ih (i + 1) o' ⟨by omega, k1, k2⟩ (by omega)
/-! the whole SUITE, the class -/
/-- what is gathered -/
def GaS (L : AM) (d : Nat) (H W : List (List Nat)) (I : MI) (J : MJ) : Prop := (∀ w, w ∈ H ↔ isHd L d w) ∧ (∀ w, w ∈ W ↔ isLa L w) ∧ H.length ≤ 175 ∧ W.length ≤ 6 ∧ RepC I 27 L ∧ I 26 1 = nI H.length ∧ I 26 3 = nI W.length ∧ WdA J 33 H ∧ WdA J 35 W
theorem GaS.sw {L : AM} {d : Nat} {H W : List (List Nat)} {I : MI} {J : MJ} (h : GaS L d H W I J) (w : List Nat) : isSW L d w ↔ ∃ f ∈ H, ∃ l ∈ W, w = f ++ l := by
  constructor
  · rintro ⟨f, l, hf, hl, e⟩
    exact ⟨f, (h.1 f).mpr hf, l, (h.2.1 l).mpr hl, e⟩
  · rintro ⟨f, hf, l, hl, e⟩
    exact ⟨f, l, (h.1 f).mp hf, (h.2.1 l).mp hl, e⟩
theorem s_gath {d : Nat} {L : AM} {I : MI} {J : MJ} {Q : Int32 → MI → MJ → Prop} (hL : GoodL L) (hd : d ≤ 2) (r1 : RepC I 27 L) (hH : HaS I) (q0 : (6 < aN L ∨ ¬ L.2.1 ≤ 3) → Q 0 I J) (q1 : ∀ H W I' J', aN L ≤ 6 → L.2.1 ≤ 3 → GaS L d H W I' J' → (∀ i, (i < 2 ∨ 12 ≤ i) → (i < 26 ∨ 31 < i) → I' i = I i) → (∀ i, (i < 6 ∨ 6 < i) → (i < 32 ∨ 35 < i) → J' i = J i) → HaS I' → Q 1 I' J') : (if 6 < (I 27 1) then Q 0 I J else (if (I 27 2) ≤ 3 then f_Suite_gather (nI d) I J (fun I79 J79 => Q 1 I79 J79) else Q 0 I J)) := by
  have hv := hL.1.1
  have h14 := hv.2.2.2.2.1
  have hk4 := hv.2.2.1
  rw [r1.2.1, r1.2.2.1]
  by_cases n6 : 6 < aN L
  · rw [if_pos (by rw [l6, ltNN (by decide) (by omega)]; exact n6)]
    exact q0 (Or.inl n6)
  · rw [if_neg (by rw [l6, ltNN (by decide) (by omega)]; exact n6)]
    by_cases k3 : L.2.1 ≤ 3
    · rw [if_pos (by rw [l3, leNN (by omega) (by decide)]; exact k3)]
      unfold f_Suite_gather
      refine s_mid hd hv.2.1 k3 r1.2.2.1 (fun I2 J2 a1 a2 a3 => ?_)
      have r2 : RepC I2 27 L := r1.kp (fun i _ _ => a1.1 i (by omega))
      refine s_heads hL hd (by omega) k3 r2 a3 a2 (fun H I3 J3 b1 b2 b3 b4 b5 => ?_)
      have r3 : RepC I3 27 L := r2.kp (fun i _ _ => b3.1 i (by omega))
      have H3 : HaS I3 := hH.kp ⟨by rw [b3.1 2 (by decide), a1.1 2 (by decide)], by rw [b3.1 4 (by decide), a1.1 4 (by decide)], by rw [b3.1 5 (by decide), a1.1 5 (by decide)]⟩
      refine s_lasts hL (by omega) r3 H3 (fun W I4 J4 c1 c2 c3 c4 c5 c6 => ?_)
      refine q1 H W I4 J4 (by omega) k3 ⟨b1, c1, b2, c2, r3.kp (fun i _ _ => c3.1 i (by omega) (by omega)), by rw [c3.2.1 1 (by decide)]; exact b4, c5, b5.kp (c3.2.2 33 (by decide) (by decide)), c6⟩ (fun i a b => ?_) (fun i a b => ?_) c4
      · rw [c3.1 i a (by omega), b3.1 i (by omega), a1.1 i (by omega)]
      · rw [c3.2.2 i (by omega) (by omega), b3.2.2 i (by omega) (by omega), a1.2.2 i (by omega) (by omega)]
    · rw [if_neg (by rw [l3, leNN (by omega) (by decide)]; exact k3)]
      exact q0 (Or.inr k3)
def noSu (σ : SG) (x y : Int32) : Prop := maC σ x = none ∨ y < 0 ∨ 2 < y ∨ ∃ A, maC σ x = some A ∧ (grt A ∨ 6 < aN (leastA A) ∨ ¬ (leastA A).2.1 ≤ 3)
theorem y_cases (y : Int32) : y < 0 ∨ 2 < y ∨ ∃ d : Nat, d ≤ 2 ∧ y = nI d := by
  rcases in_cases y 3 (by decide) with ⟨d, d1, d2⟩ | d1 | d1
  · exact Or.inr (Or.inr ⟨d, by omega, d2⟩)
  · exact Or.inl d1
  · refine Or.inr (Or.inl ?_)
    rw [Int32.le_iff_toInt_le] at d1
    rw [Int32.lt_iff_toInt_lt]
    have e3 : (nI 3).toInt = 3 := by decide
    have e2 : (2 : Int32).toInt = 2 := by decide
    omega
theorem s_gather {x y : Int32} {I : MI} {J : MJ} {σ : SG} {Q : Int32 → MI → MJ → Prop} (h : AbsS I J σ) (q0 : noSu σ x y → ∀ I', (∀ i, (i < 2 ∨ 12 ≤ i) → (i < 27 ∨ 31 < i) → I' i = I i) → HaS I' → Q 0 I' J) (q1 : ∀ A L d H W I' J', maC σ x = some A → VA A → y = nI d → d ≤ 2 → ¬ grt A → L = leastA A → GoodL L → aN L ≤ 6 → L.2.1 ≤ 3 → GaS L d H W I' J' → (∀ i, (i < 2 ∨ 12 ≤ i) → (i < 26 ∨ 31 < i) → I' i = I i) → (∀ i, (i < 6 ∨ 6 < i) → (i < 32 ∨ 35 < i) → J' i = J i) → HaS I' → Q 1 I' J') : f_School_gatherSuite x y I J Q := by
  unfold f_School_gatherSuite
  rw [s_machAt h]
  have hH := h.2.2.2.2
  rcases maC_cases σ x with ⟨p, A, hp, rfl, ht, e, e0⟩ | ⟨e, e0⟩
  · rw [if_pos e0, nI_clamp (by omega)]
    have hP := (h.1 p hp).1
    rw [ht] at hP
    obtain ⟨g1, g2, g3⟩ := hP
    refine ⟨okM_p hp, ?_⟩
    rcases y_cases y with y0 | y2 | ⟨d, hd, rfl⟩
    · rw [if_pos y0]
      exact q0 (Or.inr (Or.inl y0)) I (fun _ _ _ => rfl) hH
    · have y0 : ¬ y < 0 := fun hh => by
        rw [Int32.lt_iff_toInt_lt] at hh y2
        have e0 : (0 : Int32).toInt = 0 := by decide
        have e2 : (2 : Int32).toInt = 2 := by decide
        omega
      rw [if_neg y0, if_pos y2]
      exact q0 (Or.inr (Or.inr (Or.inl y2))) I (fun _ _ _ => rfl) hH
    · rw [if_neg (nI0_lt (by omega)), if_neg (by rw [l2, ltNN (by decide) (by omega)]; omega)]
      refine c_least (by omega) (by decide) g2 g3 hH (fun hg I1 f1 H1 => ?_) (fun hg I1 f1 H1 r1 => ?_)
      · rw [if_pos rfl]
        exact q0 (Or.inr (Or.inr (Or.inr ⟨A, e, Or.inl hg⟩))) I1 (fun i a _ => f1 i a) H1
      · rw [if_neg (by decide)]
        have hL := least_good g3 hg
        have fr1 : ∀ i, (i < 2 ∨ 12 ≤ i) → (i < 27 ∨ 31 < i) → I1 i = I i := fun i a b => f1 i a (by omega)
        have q0' := fun hh => q0 (Or.inr (Or.inr (Or.inr ⟨A, e, Or.inr hh⟩))) I1 fr1 H1
        have q1' := q1 A
        generalize hLe : leastA A = L at hL r1 q0'
        refine s_gath hL hd r1 H1 q0' (fun H W I2 J2 n6 k3 G f2 j2 H2 => ?_)
        exact q1' L d H W I2 J2 e g3 rfl hd hg hLe.symm hL n6 k3 G (fun i a b => by rw [f2 i a b, fr1 i a (by omega)]) j2 H2
  · rw [if_neg e0]
    exact q0 (Or.inl e) I (fun _ _ _ => rfl) hH
theorem suite_none {x y : Int32} {σ : SG} (h : noSu σ x y) : opSuite x y σ = -1 := by
  unfold noSu at h
  unfold opSuite
  rcases h with h | h | h | ⟨A, e, h⟩
  · rw [h]
  · cases maC σ x with
    | none => rfl
    | some A => simp only; rw [if_pos h]
  · cases maC σ x with
    | none => rfl
    | some A => simp only; rw [if_pos h]; split <;> rfl
  · rw [e]
    simp only
    by_cases c1 : y < 0
    · rw [if_pos c1]
    · by_cases c2 : 2 < y
      · rw [if_neg c1, if_pos c2]
      · rw [if_neg c1, if_neg c2]
        by_cases c3 : grt A
        · rw [if_pos c3]
        · rw [if_neg c3]
          by_cases c4 : 6 < aN (leastA A)
          · rw [if_pos c4]
          · rw [if_neg c4]
            rcases h with h | h | h
            · exact absurd h c3
            · exact absurd h c4
            · rw [if_neg h]
theorem passes_none {x z y : Int32} {σ : SG} (h : noSu σ x y) : opPasses x z y σ = -1 := by
  unfold noSu at h
  unfold opPasses
  cases maC σ z with
  | none => rfl
  | some B =>
    simp only
    rcases h with h | h | h | ⟨A, e, h⟩
    · rw [h]
    · cases maC σ x with
      | none => rfl
      | some A => simp only; rw [if_pos h]
    · cases maC σ x with
      | none => rfl
      | some A => simp only; rw [if_pos h]; split <;> rfl
    · rw [e]
      simp only
      by_cases c1 : y < 0
      · rw [if_pos c1]
      · by_cases c2 : 2 < y
        · rw [if_neg c1, if_pos c2]
        · rw [if_neg c1, if_neg c2]
          by_cases c3 : grt A
          · rw [if_pos c3]
          · rw [if_neg c3]
            by_cases c4 : 6 < aN (leastA A)
            · rw [if_pos c4]
            · rw [if_neg c4]
              rcases h with h | h | h
              · exact absurd h c3
              · exact absurd h c4
              · rw [if_neg h]
theorem suite_some {x : Int32} {d : Nat} {σ : SG} {A L : AM} (e : maC σ x = some A) (hd : d ≤ 2) (hg : ¬ grt A) (eL : L = leastA A) (hn : aN L ≤ 6) (hk : L.2.1 ≤ 3) : opSuite x (nI d) σ = nI (cntP (isSW L d)) := by
  have hn' : ¬ 6 < aN L := by omega
  have h0 := nI0_lt (show d < 2 ^ 31 by omega)
  have h2 : ¬ 2 < nI d := by rw [l2, ltNN (by decide) (by omega)]; omega
  have h3 : (nI d).toNatClampNeg = d := nI_clamp (by omega)
  subst eL
  unfold opSuite
  rw [e]
  simp only
  rw [if_neg h0, if_neg h2, if_neg hg, if_neg hn', if_pos hk, h3]
theorem passes_some {x z : Int32} {d : Nat} {σ : SG} {A B L : AM} (f : maC σ z = some B) (e : maC σ x = some A) (hd : d ≤ 2) (hg : ¬ grt A) (eL : L = leastA A) (hn : aN L ≤ 6) (hk : L.2.1 ≤ 3) : opPasses x z (nI d) σ = oL (leastN (WdP (swP L B d))) := by
  have hn' : ¬ 6 < aN L := by omega
  have h0 := nI0_lt (show d < 2 ^ 31 by omega)
  have h2 : ¬ 2 < nI d := by rw [l2, ltNN (by decide) (by omega)]; omega
  have h3 : (nI d).toNatClampNeg = d := nI_clamp (by omega)
  subst eL
  unfold opPasses
  rw [e, f]
  simp only
  rw [if_neg h0, if_neg h2, if_neg hg, if_neg hn', if_pos hk, h3]
theorem S_suite {x y : Int32} {I : MI} {J : MJ} {σ : SG} {Q : Int32 → MI → MJ → Prop} (h : AbsS I J σ) (q : KSg I J (opSuite x y σ, σ) Q) : f_School_suite x y I J Q := by
  unfold f_School_suite
  refine s_gather h (fun hno I1 f1 H1 => ?_) (fun A L d H W I1 J1 e hv ed hd hg eL hL hn hk G f1 j1 H1 => ?_)
  · rw [if_pos rfl]
    rw [suite_none hno] at q
    exact q I1 J ⟨fun i hi => f1 i (by omega) (by omega), fun _ _ => rfl⟩ (h.scr (fun i hi => f1 i (by omega) (by omega)) (fun _ _ => rfl) H1)
  · subst ed
    rw [if_neg (by decide)]
    rw [suite_some e hd hg eL hn hk] at q
    obtain ⟨a1, a2, a3, a4, a5, a6, a7, a8, a9⟩ := id G
    refine s_count a3 a4 a6 a8 a7 a9 (fun v hv' => isHd_ok hL hn hd ((a1 v).mp hv')) (fun v hv' => isLa_ok hL hn ((a2 v).mp hv')) (fun S J2 g1 g2 g3 => ?_)
    rw [cntP_eq g2 (fun w => by rw [g3, G.sw])] at q
    exact q I1 J2 ⟨fun i hi => f1 i (by omega) (by omega), fun i hi => by rw [g1 i (by omega), j1 i (by omega) (by omega)]⟩ (h.scr (fun i hi => f1 i (by omega) (by omega)) (fun i hi => by rw [g1 i (by omega), j1 i (by omega) (by omega)]) H1)
theorem S_passes {x z y : Int32} {I : MI} {J : MJ} {σ : SG} {Q : Int64 → MI → MJ → Prop} (h : AbsS I J σ) (q : KSg I J (opPasses x z y σ, σ) Q) : f_School_passes x z y I J Q := by
  unfold f_School_passes
  rw [s_machAt h]
  rcases maC_cases σ z with ⟨p, B, hp, rfl, ht, f, f0⟩ | ⟨f, f0⟩
  · rw [if_pos f0, nI_clamp (by omega)]
    have hP := (h.1 p hp).1
    rw [ht] at hP
    obtain ⟨k1, k2, k3⟩ := hP
    refine ⟨okM_p hp, ?_⟩
    refine s_gather h (fun hno I1 f1 H1 => ?_) (fun A L d H W I1 J1 e hv ed hd hg eL hL hn hk G f1 j1 H1 => ?_)
    · rw [if_pos rfl]
      rw [passes_none hno] at q
      exact q I1 J ⟨fun i hi => f1 i (by omega) (by omega), fun _ _ => rfl⟩ (h.scr (fun i hi => f1 i (by omega) (by omega)) (fun _ _ => rfl) H1)
    · subst ed
      rw [if_neg (by decide)]
      rw [passes_some f e hd hg eL hn hk] at q
      obtain ⟨a1, a2, a3, a4, a5, a6, a7, a8, a9⟩ := id G
      have k2' : RepC I1 (1 + 64 + 7 * p + 1) B := k2.kp (fun i a b => f1 i (by omega) (by omega))
      refine s_ff a5 k2' hL.1.1 k3 a3 a4 a6 a8 a7 a9 (fun v hv' => isHd_ok hL hn hd ((a1 v).mp hv')) (fun v hv' => isLa_ok hL hn ((a2 v).mp hv')) G.sw ?_
      exact q I1 J1 ⟨fun i hi => f1 i (by omega) (by omega), fun i hi => j1 i (by omega) (by omega)⟩ (h.scr (fun i hi => f1 i (by omega) (by omega)) (fun i hi => j1 i (by omega) (by omega)) H1)
  · rw [if_neg f0]
    unfold opPasses at q
    rw [f] at q
    exact q I J FrS.rf h
