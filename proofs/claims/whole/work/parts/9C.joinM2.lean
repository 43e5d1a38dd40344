theorem m_yesN {m s : Nat} {A : AM} {I : MI} {J : MJ} {Q : Int32 → MI → MJ → Prop} (hm : m < 20) (hA : RepM I m A) (hv : VA A) (hs : s < aN A) : f_Model_isYesBy (nI m) (nI s) I J Q ↔ Q (if anS A s = 1 then 1 else 0) I J := m_yesBy (x := some (s, 0)) hm hA hv (fun q hq => by cases hq; exact ⟨hs, (show 0 < 4 by decide)⟩)
theorem m_first {how : Nat} {A B : AM} {I : MI} {J : MJ} {Q : MI → MJ → Prop} (h : JnM I A B) (h5 : how ≤ 5) (hv : VA A) (q : ∀ I', J2 I I' → I' 177 39 = eO how (k0J how A) → I' 177 40 = eS how (k0J how A) → Q I' J) : f_Model_firstSet (nI how) I J Q := by
  unfold f_Model_firstSet f_Model_firstSet_b31
  intro I1 e1 I2 e2
  have h14 := hv.2.2.2.2.1
  have j2 : J2 I I2 := by subst e2 e1; exact (J2.a _).tr (J2.b _)
  have c39 : I2 177 39 = 0 := by rw [e2, sI_s, pk_un (by decide), e1, sI_s, pk_us]
  have c40 : I2 177 40 = 0 := by rw [e2, sI_s, pk_us]
  have hA2 := (j2.jn h).1
  have e00 : en1 (spF 0) = 0 := by decide
  have z : ∀ how, how < 3 → k0J how A = 0 := fun how h => by unfold k0J; rw [if_neg (by omega), if_neg (by omega), if_neg (by omega)]
  rcases h6 h5 with rfl | rfl | rfl | rfl | rfl | rfl
  · rw [if_neg (by decide), if_neg (by decide), if_neg (by decide)]
    exact q I2 j2 (by rw [c39, z 0 (by decide)]; decide) (by rw [c40, z 0 (by decide)]; decide)
  · rw [if_neg (by decide), if_neg (by decide), if_neg (by decide)]
    exact q I2 j2 (by rw [c39, z 1 (by decide)]; decide) (by rw [c40, z 1 (by decide)]; decide)
  · rw [if_neg (by decide), if_neg (by decide), if_neg (by decide)]
    exact q I2 j2 (by rw [c39, z 2 (by decide)]; decide) (by rw [c40, z 2 (by decide)]; decide)
  · rw [if_pos (by decide), l18, l0, m_yesN (by decide) hA2 hv hv.n1]
    have hd := w2_d (A := A) (f := 0) (b := 0) (by decide)
    have eO3 : eO 3 (k0J 3 A) = 0 := by
      show en1 (spF (w2 A 0 0 / 16384)) = 0
      rw [hd.1]; exact e00
    have eS3 : eS 3 (k0J 3 A) = nI (if (yes A).testBit 0 then 0 ||| 1 else 0) := by
      show nI (w2 A 0 0 % 16384) = _
      rw [hd.2.1]
    have hy := yes_an hv (okF_0 hv)
    have hy' : (yes A).testBit 0 = true ↔ anS A 0 = 1 := hy
    by_cases c : anS A 0 = 1
    · rw [if_pos c, if_neg (by decide)]
      intro I3 e3
      refine q I3 (j2.tr (by subst e3; exact J2.b _)) (by rw [e3, sI_s, pk_un (by decide), c39, eO3]) (by rw [e3, sI_s, pk_us, eS3, if_pos (hy'.mpr c)]; rfl)
    · rw [if_neg c, if_pos (by decide)]
      intro I3 e3
      refine q I3 (j2.tr (by subst e3; exact J2.b _)) (by rw [e3, sI_s, pk_un (by decide), c39, eO3]) (by rw [e3, sI_s, pk_us, eS3, if_neg (fun hh => c (hy'.mp hh))])
  · rw [if_neg (by decide), if_pos (by decide)]
    refine lp2 (fun n (s : Nat) (I3 : MI) => f_Model_firstSet_L44 _ n (nI s) I3 J) (fun s I3 => s ≤ aN A ∧ J2 I I3 ∧ I3 177 39 = 0 ∧ I3 177 40 = nI (yS A s)) (fun s _ => aN A - s) ?_ 0 I2 ⟨Nat.zero_le _, j2, c39, c40⟩
    rintro n s I3 ⟨b1, b2, b3, b4⟩ ih
    unfold f_Model_firstSet_L44
    have hA3 := (b2.jn h).1
    rw [l18, vpN (by decide), nI_clamp (by decide), hA3.2.1]
    refine ⟨by decide, ?_⟩
    by_cases es : s = aN A
    · rw [if_pos (by rw [es, leNN (by omega) (by omega)]; exact Nat.le_refl _)]
      have hyl := yes_lt hv
      refine q I3 b2 b3 ?_
      rw [b4, es]
      show nI (yS A (aN A)) = nI (yes A % 16384)
      rw [Nat.mod_eq_of_lt hyl]; rfl
    · rw [if_neg (by rw [leNN (by omega) (by omega)]; omega), m_yesN (by decide) hA3 hv (by omega), b4]
      unfold f_Model_firstSet_b77
      rw [nI_1]
      by_cases c : anS A s = 1
      · rw [if_pos c, if_neg (by decide), jb_shl (by omega), jb_or]
        intro I4 e4 t et
        rw [et]
        refine ih (s + 1) I4 ⟨by omega, b2.tr (by subst e4; exact J2.b _), by rw [e4, sI_s, pk_un (by decide)]; exact b3, ?_⟩ (by omega)
        rw [e4, sI_s, pk_us]
        conv => rhs; unfold yS
        rw [if_pos c]
      · rw [if_neg c, if_pos (by decide), l0, jb_or, Nat.or_zero]
        intro I4 e4 t et
        rw [et]
        refine ih (s + 1) I4 ⟨by omega, b2.tr (by subst e4; exact J2.b _), by rw [e4, sI_s, pk_un (by decide)]; exact b3, ?_⟩ (by omega)
        rw [e4, sI_s, pk_us]
        conv => rhs; unfold yS
        rw [if_neg c]
  · rw [if_neg (by decide), if_neg (by decide), if_pos (by decide)]
    intro I3 e3 I4 e4
    exact q I4 (j2.tr (by subst e4 e3; exact (J2.a _).tr (J2.b _))) (by rw [e4, sI_s, pk_un (by decide), e3, sI_s, pk_us]; rfl) (by rw [e4, sI_s, pk_us]; rfl)
theorem PJ_f {how k : Nat} {A B : AM} (hk : PJ how A B k) (h4 : how ≠ 4) (h5 : how ≠ 5) : okF A (k / 16384) := by
  unfold PJ at hk
  by_cases h3 : how = 3
  · rw [if_pos h3] at hk; exact hk
  · rw [if_neg h3, if_neg h4, if_neg h5] at hk; exact hk.1
theorem PJ_b {how k : Nat} {A B : AM} (hk : PJ how A B k) (h3 : how < 3) : okF B (k % 16384) := by
  unfold PJ at hk
  rw [if_neg (by omega), if_neg (by omega), if_neg (by omega)] at hk
  exact hk.2.1
theorem m_nextS {how k a i : Nat} {A B : AM} {I : MI} {J : MJ} {Q : MI → MJ → Prop} (h : JnM I A B) (h5 : how ≤ 5) (hv : VA A) (hw : VA B) (h3 : A.1 ≠ 3) (h3' : B.1 ≠ 3) (hk : PJ how A B k) (ha : a < 4) (hi : i < 512) (hO : I 205 i = eO how k) (hS : I 206 i = eS how k) (q : ∀ I', J2 I I' → I' 177 39 = eO how (nxJ how A B k a) → I' 177 40 = eS how (nxJ how A B k a) → Q I' J) : f_Model_nextSet (nI how) (nI i) (nI a) I J Q := by
  unfold f_Model_nextSet f_Model_nextSet_b152 f_Model_nextSet_b220
  rw [vpN (by omega), nI_clamp (by omega), hO]
  refine ⟨hi, fun I1 e1 => ?_⟩
  rw [show I1 206 i = eS how k by rw [e1, sI_n _ _ (by decide)]; exact hS]
  refine ⟨hi, fun I2 e2 => ?_⟩
  have j2 : J2 I I2 := by subst e2 e1; exact (J2.a _).tr (J2.b _)
  have c39 : I2 177 39 = eO how k := by rw [e2, sI_s, pk_un (by decide), e1, sI_s, pk_us]
  have c40 : I2 177 40 = eS how k := by rw [e2, sI_s, pk_us]
  have hJ2 := j2.jn h
  rw [c39, c40]
  have m1 := mvF_le hv (k / 16384) a
  have m2 := mvF_le hw (k % 16384) a
  have both : (how = 0 ∨ how = 1) → f_Model_leadsOf (18 : Int32) (eO how k) (nI a) I2 J (fun r65 I65 J65 => ∀ I68 : MI, I68 = sI I65 177 (upd (I65 177) 39 r65) → f_Model_leadsOf (19 : Int32) (I68 177 40) (nI a) I68 J65 (fun r80 I80 J80 => ∀ I83 : MI, I83 = sI I80 177 (upd (I80 177) 40 r80) → Q I83 J80)) := fun hh => by
    have o1 := PJ_f hk (by omega) (by omega)
    have o2 := PJ_b hk (by omega)
    rw [show eO how k = en1 (spF (k / 16384)) by unfold eO; rw [if_neg (by omega), if_neg (by omega)], l18, m_leads1 (by decide) hJ2.1 hv h3 (spF_ok o1) ha, spF_mv hv h3 o1]
    intro I3 e3
    have j3 : J2 I2 I3 := by subst e3; exact J2.a _
    rw [show I3 177 40 = en1 (spF (k % 16384)) by rw [e3, sI_s, pk_un (by decide), c40]; unfold eS; rw [if_neg (by omega), if_pos hh], l19, m_leads1 (by decide) (j3.jn hJ2).2 hw h3' (spF_ok o2) ha, spF_mv hw h3' o2]
    intro I4 e4
    have en : nxJ how A B k a = mvF A (k / 16384) a * 16384 + mvF B (k % 16384) a := by unfold nxJ; rw [if_neg (by omega), if_neg (by omega), if_neg (by omega)]
    refine q I4 ((j2.tr j3).tr (by subst e4; exact J2.b _)) ?_ ?_
    · rw [e4, sI_s, pk_un (by decide), e3, sI_s, pk_us, en]
      unfold eO
      rw [if_neg (by omega), if_neg (by omega), show (mvF A (k / 16384) a * 16384 + mvF B (k % 16384) a) / 16384 = mvF A (k / 16384) a by omega]
    · rw [e4, sI_s, pk_us, en]
      unfold eS
      rw [if_neg (by omega), if_pos hh, show (mvF A (k / 16384) a * 16384 + mvF B (k % 16384) a) % 16384 = mvF B (k % 16384) a by omega]
  rcases h6 h5 with rfl | rfl | rfl | rfl | rfl | rfl
  · rw [if_pos (by decide)]
    exact both (Or.inl rfl)
  · rw [if_neg (by decide), if_pos (by decide)]
    exact both (Or.inr rfl)
  · rw [if_neg (by decide), if_neg (by decide), if_pos (by decide)]
    have o1 := PJ_f hk (by decide) (by decide)
    rw [show eO 2 k = en1 (spF (k / 16384)) from rfl, l18, m_leads1 (by decide) hJ2.1 hv h3 (spF_ok o1) ha, spF_mv hv h3 o1]
    intro I3 e3
    refine q I3 (j2.tr (by subst e3; exact J2.a _)) ?_ ?_
    · rw [e3, sI_s, pk_us]
      show en1 (spF (mvF A (k / 16384) a)) = en1 (spF ((mvF A (k / 16384) a * 16384 + mvF B (k % 16384) a) / 16384))
      rw [show (mvF A (k / 16384) a * 16384 + mvF B (k % 16384) a) / 16384 = mvF A (k / 16384) a by omega]
    · rw [e3, sI_s, pk_un (by decide), c40]; rfl
  · rw [if_neg (by decide), if_neg (by decide), if_neg (by decide), if_pos (by decide)]
    have o1 := PJ_f hk (by decide) (by decide)
    rw [show eO 3 k = en1 (spF (k / 16384)) from rfl, l18, m_leads1 (by decide) hJ2.1 hv h3 (spF_ok o1) ha, spF_mv hv h3 o1]
    intro I3 e3
    have j3 : J2 I2 I3 := by subst e3; exact J2.a _
    rw [show I3 177 40 = nI (k % 16384) by rw [e3, sI_s, pk_un (by decide), c40]; rfl, l19]
    have c39' : I3 177 39 = en1 (spF (mvF A (k / 16384) a)) := by rw [e3, sI_s, pk_us]
    refine m_ledTo (by decide) (j3.jn hJ2).2 hw h3' (by omega) ha ?_
    rw [c39', m_yesBy (by decide) (j3.jn hJ2).1 hv (spF_ok m1).p]
    have hd := w2_d (A := A) (f := mvF A (k / 16384) a) (b := mvS B (k % 16384) a (aN B)) (mvS_lt hw _ _ _)
    have hy := yes_an hv m1
    have en : nxJ 3 A B k a = w2 A (mvF A (k / 16384) a) (mvS B (k % 16384) a (aN B)) := rfl
    have e1' : eO 3 (nxJ 3 A B k a) = en1 (spF (mvF A (k / 16384) a)) := by
      rw [en]
      show en1 (spF (w2 A (mvF A (k / 16384) a) (mvS B (k % 16384) a (aN B)) / 16384)) = _
      rw [hd.1]
    have e2' : eS 3 (nxJ 3 A B k a) = nI (if (yes A).testBit (mvF A (k / 16384) a) then mvS B (k % 16384) a (aN B) ||| 1 else mvS B (k % 16384) a (aN B)) := by
      rw [en]
      show nI (w2 A (mvF A (k / 16384) a) (mvS B (k % 16384) a (aN B)) % 16384) = _
      rw [hd.2.1]
    by_cases c : anO A (spF (mvF A (k / 16384) a)) = 1
    · rw [if_pos c, if_neg (by decide), l1, jb_or]
      intro I4 e4
      exact q I4 ((j2.tr j3).tr (by subst e4; exact J2.b _)) (by rw [e4, sI_s, pk_un (by decide), c39', e1']) (by rw [e4, sI_s, pk_us, e2', if_pos (hy.mpr c)])
    · rw [if_neg c, if_pos (by decide), l0, jb_or, Nat.or_zero]
      intro I4 e4
      exact q I4 ((j2.tr j3).tr (by subst e4; exact J2.b _)) (by rw [e4, sI_s, pk_un (by decide), c39', e1']) (by rw [e4, sI_s, pk_us, e2', if_neg (fun hh => c (hy.mp hh))])
  · rw [if_neg (by decide), if_neg (by decide), if_neg (by decide), if_neg (by decide), if_pos (by decide), show eS 4 k = nI (k % 16384) from rfl, l18]
    refine m_ledFrom (by decide) hJ2.1 hv h3 (by omega) ha (fun I3 e3 => ?_)
    have hl := inS_lt (A := A) (k % 16384) a (aN A) hv.2.2.2.2.1
    refine q I3 (j2.tr (by subst e3; exact J2.b _)) (by rw [e3, sI_s, pk_un (by decide), c39]; rfl) ?_
    rw [e3, sI_s, pk_us]
    show _ = nI (inS A (k % 16384) a (aN A) % 16384)
    rw [Nat.mod_eq_of_lt hl]
  · rw [if_neg (by decide), if_neg (by decide), if_neg (by decide), if_neg (by decide), if_neg (by decide)]
    intro I3 e3
    have j3 : J2 I2 I3 := by subst e3; exact J2.a _
    obtain ⟨set, hset, hset31⟩ : ∃ set : Nat, set = (if k = 16384 then 1 else k % 16384) ∧ set < 16384 := ⟨_, rfl, by split <;> omega⟩
    have es : I3 177 40 = nI set := by
      rw [e3, sI_s, pk_un (by decide), c40, hset]
      show (if k = 16384 then 1 else nI (k % 16384)) = _
      split <;> rfl
    rw [es, l18]
    refine m_ledTo (by decide) (j3.jn hJ2).1 hv h3 (by omega) ha (fun I4 e4 => ?_)
    have j4 : J2 I3 I4 := by subst e4; exact J2.b _
    have hml := mvS_lt hv set a (aN A)
    rw [show I4 177 40 = nI (mvS A set a (aN A)) by rw [e4, sI_s, pk_us]]
    have c39' : I4 177 39 = 0 := by rw [e4, sI_s, pk_un (by decide), e3, sI_s, pk_us]
    have en : nxJ 5 A B k a = w1 A (mvS A set a (aN A)) := by rw [hset]; rfl
    refine m_any (by decide) ((j3.tr j4).jn hJ2).1 hv (by omega) ?_
    have fin : ∀ (v : Nat) I5, v < 16384 → nxJ 5 A B k a = v → I5 = sI I4 177 (upd (I4 177) 40 (nI v)) → Q I5 J := fun v I5 hv' ev e5 => by
      refine q I5 (((j2.tr j3).tr j4).tr (by subst e5; exact J2.b _)) ?_ ?_
      · rw [e5, sI_s, pk_un (by decide), c39', ev]
        show 0 = (if v = 16384 then (1 : Int32) else 0)
        rw [if_neg (by omega)]
      · rw [e5, sI_s, pk_us, ev]
        show _ = (if v = 16384 then 1 else nI (v % 16384))
        rw [if_neg (by omega), Nat.mod_eq_of_lt hv']
    by_cases c : mvS A set a (aN A) &&& yes A = 0
    · rw [if_neg (show ¬ (mvS A set a (aN A) &&& yes A ≠ 0) from fun h => h c), if_pos (by decide), l0, jb_or, Nat.or_zero]
      intro I5 e5
      exact fin _ I5 hml (by rw [en]; unfold w1; rw [if_pos c]) e5
    · rw [if_pos c, if_neg (by decide), l1, jb_or]
      intro I5 e5
      exact fin _ I5 (or14 hml (by decide)) (by rw [en]; unfold w1; rw [if_neg c]) e5
theorem m_bel {how k i : Nat} {A B : AM} {I : MI} {J : MJ} {Q : Int32 → MI → MJ → Prop} (h : JnM I A B) (h5 : how ≤ 5) (hv : VA A) (hw : VA B) (hk : PJ how A B k) (hi : i < 512) (hO : I 205 i = eO how k) (hS : I 206 i = eS how k) (q : Q (nI (anJ how A B k)) I J) : f_Model_belongs (nI how) (nI i) I J Q := by
  unfold f_Model_belongs f_Model_belongs_b102 f_Model_belongs_b185
  rw [vpN (by omega), nI_clamp (by omega), hO, hS]
  have t1 : blJ how A B k → Q 1 I J := fun hb => by rw [anJ_p hb] at q; exact q
  have t0 : ¬ blJ how A B k → Q 0 I J := fun hb => by rw [anJ_n hb] at q; exact q
  have hlo : k % 16384 < 16384 := Nat.mod_lt _ (by decide)
  rcases h6 h5 with rfl | rfl | rfl | rfl | rfl | rfl
  · have o1 := PJ_f hk (by decide) (by decide)
    have o2 := PJ_b hk (by decide)
    rw [if_pos (by decide), l18, l19, show eO 0 k = en1 (spF (k / 16384)) from rfl, m_yesBy (by decide) h.1 hv (spF_ok o1).p, show I 206 i = en1 (spF (k % 16384)) from hS, m_yesBy (by decide) h.2 hw (spF_ok o2).p]
    refine ⟨hi, ?_⟩
    by_cases c1 : anO A (spF (k / 16384)) = 1
    · rw [if_pos c1, if_neg (by decide)]
      refine ⟨hi, ?_⟩
      by_cases c2 : anO B (spF (k % 16384)) = 1
      · rw [if_pos c2, if_neg (by decide)]; exact t1 ⟨(yes_an hv o1).mpr c1, (yes_an hw o2).mpr c2⟩
      · rw [if_neg c2, if_pos rfl]; exact t0 (fun h => c2 ((yes_an hw o2).mp h.2))
    · rw [if_neg c1, if_pos rfl]; exact t0 (fun h => c1 ((yes_an hv o1).mp h.1))
  · have o1 := PJ_f hk (by decide) (by decide)
    have o2 := PJ_b hk (by decide)
    rw [if_neg (by decide), if_pos (by decide), l18, l19, show eO 1 k = en1 (spF (k / 16384)) from rfl, m_yesBy (by decide) h.1 hv (spF_ok o1).p, show I 206 i = en1 (spF (k % 16384)) from hS, m_yesBy (by decide) h.2 hw (spF_ok o2).p]
    refine ⟨hi, ?_⟩
    by_cases c1 : anO A (spF (k / 16384)) = 1
    · rw [if_pos c1, if_neg (by decide)]; exact t1 (Or.inl ((yes_an hv o1).mpr c1))
    · rw [if_neg c1, if_pos rfl]
      refine ⟨hi, ?_⟩
      by_cases c2 : anO B (spF (k % 16384)) = 1
      · rw [if_pos c2, if_neg (by decide)]; exact t1 (Or.inr ((yes_an hw o2).mpr c2))
      · rw [if_neg c2, if_pos rfl]; exact t0 (fun h => h.elim (fun h => c1 ((yes_an hv o1).mp h)) (fun h => c2 ((yes_an hw o2).mp h)))
  · have o1 := PJ_f hk (by decide) (by decide)
    rw [if_neg (by decide), if_neg (by decide), if_pos (by decide), l18, show eO 2 k = en1 (spF (k / 16384)) from rfl, m_yesBy (by decide) h.1 hv (spF_ok o1).p]
    refine ⟨hi, ?_⟩
    by_cases c1 : anO A (spF (k / 16384)) = 1
    · rw [if_pos c1, if_neg (by decide)]; exact t0 (fun h => h ((yes_an hv o1).mpr c1))
    · rw [if_neg c1, if_pos rfl]; exact t1 (fun h => c1 ((yes_an hv o1).mp h))
  · rw [if_neg (by decide), if_neg (by decide), if_neg (by decide), if_pos (by decide), l19, show eS 3 k = nI (k % 16384) from rfl]
    refine ⟨hi, m_any (by decide) h.2 hw (by omega) ?_⟩
    by_cases c : k % 16384 &&& yes B = 0
    · rw [if_neg (show ¬ (k % 16384 &&& yes B ≠ 0) from fun h => h c)]
      exact ⟨Or.inl rfl, t0 (fun h => h c)⟩
    · rw [if_pos c]
      exact ⟨Or.inr rfl, t1 c⟩
  · rw [if_neg (by decide), if_neg (by decide), if_neg (by decide), if_neg (by decide), if_pos (by decide), show eS 4 k = nI (k % 16384) from rfl, pk_andN (by omega) 1 (by decide)]
    refine ⟨hi, ?_⟩
    have hb : (k % 16384).testBit 0 = true ↔ k % 16384 % 2 = 1 := by simp
    by_cases c : k % 16384 % 2 = 1
    · rw [if_pos (by rw [show k % 16384 % 2 ^ 1 = 1 from c]; rfl)]
      exact t1 (hb.mpr c)
    · have c0 : k % 16384 % 2 ^ 1 = 0 := by omega
      rw [c0, if_neg (by decide)]
      exact t0 (fun h => c (hb.mp h))
  · rw [if_neg (by decide), if_neg (by decide), if_neg (by decide), if_neg (by decide), if_neg (by decide), l18]
    refine ⟨hi, ?_⟩
    by_cases e : k = 16384
    · rw [show eO 5 k = 1 from (by show (if k = 16384 then (1 : Int32) else 0) = 1; rw [if_pos e]), if_pos rfl]
      exact t1 (Or.inl e)
    · rw [show eO 5 k = 0 from (by show (if k = 16384 then (1 : Int32) else 0) = 0; rw [if_neg e]), if_neg (by decide), show eS 5 k = nI (k % 16384) from (by show (if k = 16384 then 1 else nI (k % 16384)) = _; rw [if_neg e])]
      refine ⟨hi, m_any (by decide) h.1 hv (by omega) ?_⟩
      by_cases c : k % 16384 &&& yes A = 0
      · rw [if_neg (show ¬ (k % 16384 &&& yes A ≠ 0) from fun h => h c), if_pos rfl]
        exact t0 (fun h => h.elim e (fun h => h c))
      · rw [if_pos c, if_neg (by decide)]
        exact t1 (Or.inr c)
