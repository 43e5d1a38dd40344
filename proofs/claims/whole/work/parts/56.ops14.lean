/-! frames where only scratch cells change -/
theorem AbsS.scr {I I' : MI} {J J' : MJ} {σ : SG} (h : AbsS I J σ) (e : ∀ i, (i = 0 ∨ (37 ≤ i ∧ i ≤ 54) ∨ i = 56 ∨ (65 ≤ i ∧ i < 177)) → I' i = I i) (ej : ∀ i, (i = 0 ∨ (37 ≤ i ∧ i ≤ 54) ∨ i = 56 ∨ (65 ≤ i ∧ i < 177)) → J' i = J i) (hh : HaS I') : AbsS I' J' σ := by
  obtain ⟨h1, h2, h3, h4, h5⟩ := h
  refine ⟨fun p hp => ⟨(h1 p hp).1.kp ?_ (fun i a b => e i (by omega)) (ej _ (by omega)), (h1 p hp).2.kp ?_⟩, by rw [e 0 (by omega)]; exact h2, h3.kp (fun i a b => e i (by omega)) (fun i a b => ej i (by omega)), ?_, hh⟩
  · rw [e _ (by omega)]; exact ⟨rfl, rfl, rfl⟩
  · rw [e _ (by omega)]; exact ⟨rfl, rfl⟩
  · unfold KnS at *
    rw [e 52 (by omega), e 54 (by omega), e 56 (by omega), ej 53 (by omega)]
    exact h4
theorem AbsM.scr {I I' : MI} {J J' : MJ} {σ : SG} (h : AbsM I J σ) (e7 : ∀ k, k ∈ [13, 49, 50, 53, 54, 56, 59] → I' 177 k = I 177 k) (e : ∀ i, ((178 ≤ i ∧ i ≤ 183) ∨ i = 218) → I' i = I i) (em : ∀ q, q < 18 → MEq I I' q) (ej : J' 177 55 = J 177 55 ∧ J' 180 = J 180 ∧ J' 215 = J 215 ∧ J' 216 = J 216 ∧ J' 217 = J 217) : AbsM I' J' σ := by
  obtain ⟨h1, h2, h3, h4⟩ := h
  refine ⟨fun q hq => ?_, by rw [e7 13 (by decide)]; exact h2, ?_, h4.kp (e7 59 (by decide)) (e 218 (by omega)) ej.2.2.2.2⟩
  · exact ⟨(h1 q hq).1.kp ⟨by rw [e 178 (by omega)], by rw [e 179 (by omega)], by rw [e 181 (by omega)]⟩ (em q (by omega)) (fun i _ => by rw [ej.2.1]), (h1 q hq).2.kp ⟨by rw [e 183 (by omega)], by rw [e 182 (by omega)]⟩⟩
  · revert h3
    generalize σ.2.2.2.1 = t
    intro h
    match t, h with
    | none, h => show I' 177 49 = 0; rw [e7 49 (by decide)]; exact h
    | some P, h =>
      obtain ⟨g1, g2, g3, g4, g5, g6, g7, g8, g9, g10, g11⟩ := h
      obtain ⟨v1, v2, v3, v4, v5, v6, v7, v8, v9, v10⟩ := id g11
      refine ⟨by rw [e7 49 (by decide)]; exact g1, by rw [e7 50 (by decide)]; exact g2, by rw [e7 53 (by decide)]; exact g3, by rw [e7 54 (by decide)]; exact g4, by rw [e7 56 (by decide)]; exact g5, by rw [ej.1]; exact g6, g7.kp v1.1 (em 16 (by omega)), g8.kp (mkG_VA v1 ?_ v5 (fun w hw => (v7 w hw).2) v10) (em 17 (by omega)), by rw [ej.2.2.1]; exact g9, by rw [ej.2.2.2.1]; exact g10, g11⟩
      have := (List.getElem?_eq_some_iff.mp v3).1
      omega
theorem AbsM.s177 {I I' : MI} {J : MJ} {σ : SG} (h : AbsM I J σ) (e7 : ∀ k, k ∈ [13, 49, 50, 53, 54, 56, 59] → I' 177 k = I 177 k) (e : ∀ i, i ≠ 177 → I' i = I i) : AbsM I' J σ := h.scr e7 (fun i hi => e i (by omega)) (fun q _ => MEq.of (fun i a b => e i (by omega))) ⟨rfl, rfl, rfl, rfl, rfl⟩
theorem setA_setA {σ : SG} {x : Int32} {A B : AM} : setA (setA σ x A) x B = setA σ x B := by
  unfold setA setF setD
  refine Prod.ext ?_ (Prod.ext ?_ rfl) <;>
  · funext q
    simp only
    by_cases hq : q = x.toNatClampNeg
    · simp [hq]
    · simp [hq]
theorem setA_at {σ : SG} {x : Int32} {A : AM} : (setA σ x A).1 x.toNatClampNeg = some (.inl A) := by simp [setA, setF, setD]
theorem setA_f {σ : SG} {p : Nat} {A B : AM} (hp : p < 16) : setF (setD (setA σ (nI p) A) p (some (.inl B))) p ((setA σ (nI p) A).2.1 p) = setA σ (nI p) B := by
  have h := @setA_setA σ (nI p) A B
  have e : setA (setA σ (nI p) A) (nI p) B = setF (setD (setA σ (nI p) A) p (some (.inl B))) p ((setA σ (nI p) A).2.1 p) := by
    generalize setA σ (nI p) A = τ
    unfold setA
    rw [nI_clamp (by omega)]
  rw [← e]
  exact h
theorem setA_self {σ : SG} {p : Nat} {A : AM} (hp : p < 16) (h : σ.1 p = some (.inl A)) : setA σ (nI p) A = σ := by
  unfold setA setF setD
  rw [nI_clamp (by omega)]
  refine Prod.ext ?_ (Prod.ext ?_ rfl)
  · funext q
    by_cases hq : q = p
    · simp [hq, h]
    · simp [hq]
  · funext q
    simp only
    by_cases hq : q = p
    · simp [hq]
    · simp [hq]
theorem setA_atN {σ : SG} {p : Nat} {A : AM} (hp : p < 16) : (setA σ (nI p) A).1 p = some (.inl A) := by
  have := @setA_at σ (nI p) A
  rw [nI_clamp (by omega)] at this
  exact this
/-! copy -/
def cpy (rs rt : ROW) (i n : Nat) : ROW := (rs.drop i).take n ++ rt.drop n
def opCopy (x s i t n : Int32) (σ : SG) : Int32 × SG := match maC σ x with
  | none => ref (fMa σ x) σ
  | some A => match idx (aN A) s, idx (aN A) t with
    | some s', some t' => match (stQ A s').1, (stQ A t').1 with
      | some rs, some rt => if i < 0 ∨ n < 0 ∨ rt.length < n.toNatClampNeg ∨ rs.length < i.toNatClampNeg + n.toNatClampNeg then ref 2 σ else don 0 (setA σ x (setQ A t' (some (cpy rs rt i.toNatClampNeg n.toNatClampNeg), (stQ A t').2)))
      | _, _ => ref 1 σ
    | _, _ => ref 2 σ
theorem cpy_get {rs rt : ROW} {i n : Nat} (h1 : n ≤ rt.length) (h2 : i + n ≤ rs.length) {a : Nat} {x : Option Nat × Nat} (h : (cpy rs rt i n)[a]? = some x) : (a < n ∧ rs[i + a]? = some x) ∨ (n ≤ a ∧ rt[a]? = some x) := by
  unfold cpy at h
  have hl : ((rs.drop i).take n).length = n := by simp; omega
  by_cases ha : a < n
  · rw [List.getElem?_append_left (by omega), List.getElem?_take_of_lt ha, List.getElem?_drop] at h
    exact Or.inl ⟨ha, h⟩
  · rw [List.getElem?_append_right (by omega), hl, List.getElem?_drop] at h
    exact Or.inr ⟨by omega, by rw [← h]; congr 1; omega⟩
theorem cpy_len {rs rt : ROW} {i n : Nat} (h1 : n ≤ rt.length) (h2 : i + n ≤ rs.length) : (cpy rs rt i n).length = rt.length := by
  unfold cpy; simp; omega
theorem cpy_VR {A : AM} {s t : Nat} {zs zt : Option ROW × Nat} {rs rt : ROW} {i n : Nat} (hv : VA A) (hs : A.2.2[s]? = some zs) (ht : A.2.2[t]? = some zt) (hrs : zs.1 = some rs) (hrt : zt.1 = some rt) (h1 : n ≤ rt.length) (h2 : i + n ≤ rs.length) : VR (aN A) A.2.1 A.1 (some (cpy rs rt i n), zt.2) := by
  obtain ⟨s1, s2, s3⟩ := hv.2.2.2.2.2 zs (List.mem_of_getElem? hs)
  obtain ⟨t1, t2, t3⟩ := hv.2.2.2.2.2 zt (List.mem_of_getElem? ht)
  have hm : ∀ x ∈ cpy rs rt i n, x ∈ rs ∨ x ∈ rt := fun x hx => by
    obtain ⟨a, ha⟩ := List.mem_iff_getElem?.mp hx
    rcases cpy_get h1 h2 ha with ⟨_, h⟩ | ⟨_, h⟩
    · exact Or.inl (List.mem_of_getElem? h)
    · exact Or.inr (List.mem_of_getElem? h)
  refine ⟨t1, fun hk => ⟨_, rfl, ?_, fun x hx => ?_⟩, fun r hr => ?_⟩
  · obtain ⟨r, e1, e2, e3⟩ := t2 hk
    rw [hrt] at e1; cases e1
    rw [cpy_len h1 h2]; exact e2
  · obtain ⟨r, e1, e2, e3⟩ := t2 hk
    rw [hrt] at e1; cases e1
    obtain ⟨r, f1, f2, f3⟩ := s2 hk
    rw [hrs] at f1; cases f1
    rcases hm x hx with h | h
    · exact f3 x h
    · exact e3 x h
  · cases hr
    refine ⟨by rw [cpy_len h1 h2]; exact (t3 rt hrt).1, fun x hx => ?_⟩
    rcases hm x hx with h | h
    · exact (s3 rs hrs).2 x h
    · exact (t3 rt hrt).2 x h
theorem opCopy_ok {x i n : Int32} {σ : SG} {A : AM} {s t i' n' : Nat} {zs zt : Option ROW × Nat} {rs rt : ROW} (e : maC σ x = some A) (hs : A.2.2[s]? = some zs) (ht : A.2.2[t]? = some zt) (hrs : zs.1 = some rs) (hrt : zt.1 = some rt) (es : idx (aN A) (nI s) = some s) (et : idx (aN A) (nI t) = some t) : opCopy x (nI s) i (nI t) n σ = if i < 0 ∨ n < 0 ∨ rt.length < n.toNatClampNeg ∨ rs.length < i.toNatClampNeg + n.toNatClampNeg then ref 2 σ else don 0 (setA σ x (setQ A t (some (cpy rs rt i.toNatClampNeg n.toNatClampNeg), zt.2))) := by
  unfold opCopy
  rw [e]
  simp only [es, et, stQ_of hs, stQ_of ht, hrs, hrt]
theorem opCopy_mis {x i n : Int32} {σ : SG} {A : AM} {s t : Nat} {zs zt : Option ROW × Nat} (e : maC σ x = some A) (hs : A.2.2[s]? = some zs) (ht : A.2.2[t]? = some zt) (hn : zs.1 = none ∨ zt.1 = none) (es : idx (aN A) (nI s) = some s) (et : idx (aN A) (nI t) = some t) : opCopy x (nI s) i (nI t) n σ = ref 1 σ := by
  unfold opCopy
  rw [e]
  simp only [es, et, stQ_of hs, stQ_of ht]
  cases h1 : zs.1 with
  | none => rfl
  | some r =>
    cases h2 : zt.1 with
    | none => rfl
    | some r2 => rw [h1, h2] at hn; rcases hn with h | h <;> cases h
theorem opCopy_bad {x s i t n : Int32} {σ : SG} {A : AM} (e : maC σ x = some A) (hn : idx (aN A) s = none ∨ idx (aN A) t = none) : opCopy x s i t n σ = ref 2 σ := by
  unfold opCopy
  rw [e]
  simp only
  cases h1 : idx (aN A) s with
  | none => rfl
  | some r =>
    cases h2 : idx (aN A) t with
    | none => rfl
    | some r2 => rw [h1, h2] at hn; rcases hn with h | h <;> cases h
theorem nI_lt0 {x : Int32} (h : x < 0) : ∀ n : Nat, n < 2 ^ 31 → ¬ nI n ≤ x := fun n hn hh => by
  rw [Int32.le_iff_toInt_le, nI_toInt hn] at hh
  rw [Int32.lt_iff_toInt_lt] at h
  have e0 : (0 : Int32).toInt = 0 := by decide
  omega
theorem sub_le {a b c : Nat} (hb : b < 2 ^ 30) (hc : c < 2 ^ 30) (ha : a < 2 ^ 31) : (nI a ≤ nI b - nI c) ↔ a + c ≤ b := by
  rw [Int32.le_iff_toInt_le, nI_toInt ha]
  have : (nI b - nI c).toInt = (b : Int) - c := by
    rw [Int32.toInt_sub, nI_toInt (by omega), nI_toInt (by omega), Int.bmod_eq_of_le (by omega) (by omega)]
  rw [this]
  omega
theorem S_copy {x s i t n : Int32} {I : MI} {J : MJ} {σ : SG} {Q : Int32 → MI → MJ → Prop} (h : AbsS I J σ) (q : KS I J (opCopy x s i t n σ) Q) : f_School_copy x s i t n I J Q := by
  unfold f_School_copy
  rw [S_machF h]
  rcases maC_cases σ x with ⟨p, A, hp, rfl, ht, e, e0⟩ | ⟨e, e0⟩
  · have hP := (h.1 p hp).1
    rw [ht] at hP
    obtain ⟨g1, g2, g3⟩ := hP
    rw [e0, if_pos rfl, vpN (by omega), nI_clamp (by omega)]
    refine ⟨hp, ?_⟩
    have bad : ∀ v, v ≠ 0 → opCopy (nI p) s i t n σ = ref v σ → f_School_copy_b32 (nI p) s i t n v Q I J := fun v hv ho => by
      rw [ho] at q
      unfold f_School_copy_b32
      rw [if_neg hv]
      exact q.ref h
    unfold f_School_copyFault f_School_copyFault_b73 f_School_copyFault_b78
    rcases idx_cases g3.n31 s with ⟨s', hs, rfl, es⟩ | ⟨hb, es⟩
    · rw [s_hasStN g2.2.1 g3.n31 hs, if_neg (by decide)]
      rcases idx_cases g3.n31 t with ⟨t', ht', rfl, et⟩ | ⟨hb, et⟩
      · rw [s_hasStN g2.2.1 g3.n31 ht', if_neg (by decide), if_neg (show ¬ (1 : Int32) = 0 by decide), if_pos rfl]
        have hs14 : s' < 14 := by have := g3.2.2.2.2.1; omega
        have ht14 : t' < 14 := by have := g3.2.2.2.2.1; omega
        obtain ⟨zs, hzs⟩ := VA.get hs
        obtain ⟨zt, hzt⟩ := VA.get ht'
        obtain ⟨a1, a2, a3⟩ := g2.2.2.2 s' zs hzs
        obtain ⟨b1, b2, b3⟩ := g2.2.2.2 t' zt hzt
        rw [nI_clamp (by omega), nI_clamp (by omega), vpN (by omega), vpN (by omega)]
        refine ⟨hs14, ?_⟩
        cases hrs : zs.1 with
        | none => rw [if_pos (a2 hrs)]; exact bad 1 (by decide) (opCopy_mis e hzs hzt (Or.inl hrs) es et)
        | some rs =>
          have hls := (g3.row4 hzs).2 rs hrs
          rw [(a3 rs hrs).1, if_neg (lm1 (by omega))]
          refine ⟨ht14, ?_⟩
          cases hrt : zt.1 with
          | none => rw [if_pos (b2 hrt)]; exact bad 1 (by decide) (opCopy_mis e hzs hzt (Or.inr hrt) es et)
          | some rt =>
            have hlt := (g3.row4 hzt).2 rt hrt
            rw [(b3 rt hrt).1, if_neg (lm1 (by omega))]
            have ok := @opCopy_ok (nI p) i n σ A s' t' 0 0 zs zt rs rt e hzs hzt hrs hrt es et
            by_cases hi : i < 0
            · rw [if_pos hi]; exact bad 2 (by decide) (by rw [ok, if_pos (Or.inl hi)])
            · rw [if_neg hi]
              by_cases hn : n < 0
              · rw [if_pos hn]; exact bad 2 (by decide) (by rw [ok, if_pos (Or.inr (Or.inl hn))])
              · rw [if_neg hn]
                refine ⟨ht14, ?_⟩
                obtain ⟨i', hi', rfl⟩ := nI_of hi
                obtain ⟨n', hn', rfl⟩ := nI_of hn
                rw [nI_clamp hi', nI_clamp hn'] at ok
                by_cases h3 : rt.length < n'
                · rw [if_pos (show nI rt.length < nI n' by rw [ltNN (by omega) hn']; exact h3)]
                  exact bad 2 (by decide) (by rw [ok, if_pos (Or.inr (Or.inr (Or.inl h3)))])
                · rw [if_neg (show ¬ nI rt.length < nI n' by rw [ltNN (by omega) hn']; exact h3)]
                  refine ⟨hs14, ?_⟩
                  by_cases h4 : i' + n' ≤ rs.length
                  · rw [if_pos ((sub_le (by omega) (by omega) hi').mpr h4)]
                    rw [ok, if_neg (by rintro (u | u | u | u); exact hi u; exact hn u; exact h3 u; omega)] at q
                    unfold f_School_copy_b32
                    rw [if_pos rfl, vpN (by omega), nI_clamp (by omega)]
                    refine ⟨hp, ?_⟩
                    unfold f_Machine_copyTakes
                    rw [l4, pk_mul, nI_add, pk_mul, nI_clamp (by omega), nI_clamp hn', nI_clamp (by omega)]
                    have hbnd : ¬ nI (s' * 4 + i') < 0 ∧ ¬ nI (t' * 4) < 0 ∧ ¬ nI n' < 0 ∧ s' * 4 + i' + n' ≤ 56 ∧ t' * 4 + n' ≤ 56 := ⟨nI0_lt (by omega), nI0_lt (by omega), hn, by omega, by omega⟩
                    refine ⟨hbnd, fun I1 e1 => ⟨hbnd, fun I2 e2 => ?_⟩⟩
                    have hI : ∀ j, j ≠ 1 + 64 + 7 * p + 1 + 2 → j ≠ 1 + 64 + 7 * p + 1 + 3 → I2 j = I j := fun j u1 u2 => by rw [e2, sI_n _ _ u2, e1, sI_n _ _ u1]
                    have f2 : ∀ j, I2 (1 + 64 + 7 * p + 1 + 2) j = if t' * 4 ≤ j ∧ j < t' * 4 + n' then I (1 + 64 + 7 * p + 1 + 2) (s' * 4 + i' + (j - t' * 4)) else I (1 + 64 + 7 * p + 1 + 2) j := fun j => by rw [e2, sI_n _ _ (by omega), e1, sI_s]; rfl
                    have f3 : ∀ j, I2 (1 + 64 + 7 * p + 1 + 3) j = if t' * 4 ≤ j ∧ j < t' * 4 + n' then I (1 + 64 + 7 * p + 1 + 3) (s' * 4 + i' + (j - t' * 4)) else I (1 + 64 + 7 * p + 1 + 3) j := fun j => by rw [e2, sI_s, e1, sI_n _ _ (by omega)]; rfl
                    unfold setA at q
                    rw [nI_clamp (by omega)] at q
                    refine q.don ⟨fun j hj => hI j (by omega) (by omega), fun _ _ => rfl⟩ (h.mach hp ht (fun j hj => hI j (by omega) (by omega)) rfl (g2.set g3 ht' (hI _ (by omega) (by omega)) (fun j hj => by rw [hI _ (by omega) (by omega)]) (fun j _ => by rw [hI _ (by omega) (by omega)]) (fun j hj => ⟨by rw [f2, if_neg (by omega)], by rw [f3, if_neg (by omega)]⟩) ⟨by rw [hI _ (by omega) (by omega)]; exact b1, (fun hh => by cases hh), fun r hr => ?_⟩) (setQ_VA g3 (cpy_VR g3 hzs hzt hrs hrt (by omega) h4)))
                    cases hr
                    refine ⟨by rw [hI _ (by omega) (by omega), cpy_len (by omega) h4]; exact (b3 rt hrt).1, fun a y hy => ?_⟩
                    rcases cpy_get (by omega) h4 hy with ⟨ha, hy⟩ | ⟨ha, hy⟩
                    · have k := (a3 rs hrs).2 _ _ hy
                      rw [f2, f3, if_pos (by omega), if_pos (by omega), show s' * 4 + i' + (t' * 4 + a - t' * 4) = s' * 4 + (i' + a) by omega]
                      exact k
                    · have k := (b3 rt hrt).2 _ _ hy
                      rw [f2, f3, if_neg (by omega), if_neg (by omega)]
                      exact k
                  · rw [if_neg (fun hh => h4 ((sub_le (by omega) (by omega) hi').mp hh))]
                    exact bad 2 (by decide) (by rw [ok, if_pos (Or.inr (Or.inr (Or.inr (by omega))))])
      · rw [s_hasStB g2.2.1 hb, if_pos rfl]
        exact bad 2 (by decide) (opCopy_bad e (Or.inr et))
    · rw [s_hasStB g2.2.1 hb, if_pos rfl]
      exact bad 2 (by decide) (opCopy_bad e (Or.inl es))
  · unfold opCopy at q
    rw [e] at q
    rw [if_neg e0]
    unfold f_School_copy_b32
    rw [if_neg e0]
    exact q.ref h
