/-! the reference's first unlike row -/
def en1 (x : Option (Nat × Nat)) : Int32 := enO (x.map (fun q => q.1))
def pr1 (x : Option (Nat × Nat)) : Nat := match x with
  | none => 0
  | some q => q.1 + 1
theorem en1_1 (x : Option (Nat × Nat)) : en1 x + 1 = nI (pr1 x) := by
  cases x with
  | none => rfl
  | some q => show nI q.1 + 1 = _; rw [nI_1]; rfl
theorem m_says1 {m : Nat} {A : AM} {x : Option (Nat × Nat)} {I : MI} {J : MJ} {Q : Int32 → MI → MJ → Prop} (hm : m < 20) (hA : RepM I m A) (hv : VA A) (hx : okSp A x) : f_Model_saysOf (nI m) (en1 x) I J Q ↔ Q (nI (anO A x)) I J := by
  unfold f_Model_saysOf
  cases x with
  | none => rw [if_neg (by decide)]; rfl
  | some q =>
    obtain ⟨h1, h2⟩ := hx q rfl
    have h14 : q.1 < 14 := by have := hv.2.2.2.2.1; omega
    obtain ⟨z, hz⟩ := VA.get h1
    show _ ↔ Q (nI (anS A q.1)) I J
    rw [show en1 (some q) = nI q.1 from rfl, if_pos (nI0_le (by omega)), l14, pk_mul, nI_add, vpN (by omega), nI_clamp (by omega), (hA.2.2.2 _ z hz).1, anS_of hz]
    exact ⟨fun h => h.2, fun h => ⟨by omega, h⟩⟩
theorem m_leads1 {m a : Nat} {A : AM} {x : Option (Nat × Nat)} {I : MI} {J : MJ} {Q : Int32 → MI → MJ → Prop} (hm : m < 20) (hA : RepM I m A) (hv : VA A) (h3 : A.1 ≠ 3) (hx : okSo A x) (ha : a < 4) : f_Model_leadsOf (nI m) (en1 x) (nI a) I J Q ↔ Q (en1 (x.bind (fun q => dl A q a))) I J := by
  unfold f_Model_leadsOf f_Model_leadsOf_b14
  cases x with
  | none => rw [if_pos (by decide)]; rfl
  | some q =>
    obtain ⟨s, c⟩ := q
    obtain ⟨h1, h2, h4⟩ := hx _ rfl
    have h1' : s < aN A := h1
    have h14 : s < 14 := by have := hv.2.2.2.2.1; omega
    rw [show en1 (some (s, c)) = nI s from rfl, if_neg (nI0_lt (by omega)), m_hasTk hm hA hv h1', tX_tk ha]
    show _ ↔ Q (en1 (dl A (s, c) a)) I J
    cases hy : tkO A s a with
    | none =>
      rw [if_pos (by simp), dl_no hy]
      exact Iff.rfl
    | some y =>
      obtain ⟨k1, k2, k3, k4, k5⟩ := tkO_v hv hy
      obtain ⟨z, r, hz, hr, hg⟩ := tkO_inv hy
      have kk := ((hA.2.2.2 s z hz).2.2 r hr).2 a y hg
      rw [if_neg isS1, spotN, vpN (by omega), nI_clamp (by omega), kk.1, dl_0 hy (k3 h3)]
      have e : en1 (y.1.map (fun t => (t, c))) = enO y.1 := by
        cases y.1 <;> rfl
      rw [e]
      exact ⟨fun h => h.2, fun h => ⟨by omega, h⟩⟩
def ix1 (k : Nat) : Nat := 16 * pr1 (dcP (k / 57)) + pr1 (dcP (k % 57))
theorem pr1_15 {A : AM} (hv : VA A) {x : Option (Nat × Nat)} (hx : okSo A x) : pr1 x < 15 := by
  cases x with
  | none => decide
  | some q => have := (hx q rfl).1; have := hv.2.2.2.2.1; show q.1 + 1 < 15; omega
theorem pr1_inj {A : AM} (h3 : A.1 ≠ 3) {x y : Option (Nat × Nat)} (hx : okSo A x) (hy : okSo A y) (e : pr1 x = pr1 y) : x = y := by
  cases x with
  | none => cases y with
    | none => rfl
    | some r => have e' : 0 = r.1 + 1 := e; omega
  | some q => cases y with
    | none => have e' : q.1 + 1 = 0 := e; omega
    | some r =>
      have e' : q.1 + 1 = r.1 + 1 := e
      have h1 := (hx q rfl).2.2 h3
      have h2 := (hy r rfl).2.2 h3
      rw [show q = r from Prod.ext (by omega) (by rw [h1, h2])]
theorem ix1_cd {A B : AM} (hv : VA A) (hw : VA B) {x y : Option (Nat × Nat)} (hx : okSo A x) (hy : okSo B y) : ix1 (cdP x y) = 16 * pr1 x + pr1 y ∧ ix1 (cdP x y) < 256 := by
  have h1 := pr1_15 hv hx
  have h2 := pr1_15 hw hy
  unfold ix1
  rw [(cd_dc hv hw hx.p hy.p).1, (cd_dc hv hw hx.p hy.p).2]
  omega
theorem ix1_inj {A B : AM} (hv : VA A) (hw : VA B) (h3 : A.1 ≠ 3) (h3' : B.1 ≠ 3) {k k' : Nat} (hk : PPk (okS A) (okS B) k) (hk' : PPk (okS A) (okS B) k') (e : ix1 k = ix1 k') : k = k' := by
  obtain ⟨x, y, rfl, hx, hy⟩ := hk
  obtain ⟨x', y', rfl, hx', hy'⟩ := hk'
  rw [(ix1_cd hv hw hx hy).1, (ix1_cd hv hw hx' hy').1] at e
  have a1 := pr1_15 hw hy
  have a2 := pr1_15 hw hy'
  rw [pr1_inj h3 hx hx' (by omega), pr1_inj h3' hy hy' (by omega)]
/-- what the walk changes -/
def DfF (I I' : MI) (J J' : MJ) : Prop := (∀ i, i ≠ 201 → i ≠ 202 → i ≠ 204 → I' i = I i) ∧ ∀ i, i ≠ 203 → J' i = J i
theorem DfF.rf {I : MI} {J : MJ} : DfF I I J J := ⟨fun _ _ _ _ => rfl, fun _ _ => rfl⟩
theorem DfF.tr {I I' I'' : MI} {J J' J'' : MJ} (h : DfF I I' J J') (h' : DfF I' I'' J' J'') : DfF I I'' J J'' := ⟨fun i a b c => (h'.1 i a b c).trans (h.1 i a b c), fun i a => (h'.2 i a).trans (h.2 i a)⟩
theorem DfF.ms {I I' : MI} {J J' : MJ} (h : DfF I I' J J') : MSc I I' J J' := ⟨fun k _ => by rw [h.1 177 (by decide) (by decide) (by decide)], fun i hi => h.1 i (by omega) (by omega) (by omega), fun q _ => MEq.of (fun i a b => h.1 i (by omega) (by omega) (by omega)), ⟨by rw [h.2 177 (by decide)], h.2 180 (by decide), h.2 215 (by decide), h.2 216 (by decide), h.2 217 (by decide)⟩, ⟨fun i hi => h.1 i (by omega) (by omega) (by omega), fun i hi => h.2 i (by omega)⟩⟩
theorem DfF.rep {I I' : MI} {J J' : MJ} {m : Nat} {A : AM} (h : DfF I I' J J') (hA : RepM I m A) : RepM I' m A := by
  unfold RepM RowM at *
  rw [h.1 184 (by decide) (by decide) (by decide), h.1 185 (by decide) (by decide) (by decide), h.1 186 (by decide) (by decide) (by decide), h.1 187 (by decide) (by decide) (by decide), h.1 188 (by decide) (by decide) (by decide), h.1 189 (by decide) (by decide) (by decide), h.1 190 (by decide) (by decide) (by decide)]
  exact hA
def DfL (A B : AM) (I : MI) (J : MJ) (L : List KW) : Prop := (∀ (j : Nat) (z : KW), L[j]? = some z → I 201 j = en1 (dcP (z.1 / 57)) ∧ I 202 j = en1 (dcP (z.1 % 57)) ∧ J 203 j = lN (num z.2)) ∧ ∀ k, PPk (okS A) (okS B) k → (k ∈ L.map (fun x => x.1) → I 204 (ix1 k) = 1) ∧ (k ∉ L.map (fun x => x.1) → I 204 (ix1 k) = 0)
theorem DfL.add {A B : AM} {I I' : MI} {J J' : MJ} {L : List KW} {k : Nat} {w : List Nat} (hv : VA A) (hw : VA B) (h3 : A.1 ≠ 3) (h3' : B.1 ≠ 3) (h : DfL A B I J L) (hk : PPk (okS A) (okS B) k) (e1 : ∀ j, I' 201 j = if j = L.length then en1 (dcP (k / 57)) else I 201 j) (e2 : ∀ j, I' 202 j = if j = L.length then en1 (dcP (k % 57)) else I 202 j) (e3 : ∀ j, J' 203 j = if j = L.length then lN (num w) else J 203 j) (e4 : ∀ j, I' 204 j = if j = ix1 k then 1 else I 204 j) : DfL A B I' J' (L ++ [(k, w)]) := by
  refine ⟨fun j z hz => ?_, fun k' hk' => ?_⟩
  · rw [e1, e2, e3]
    rcases app_get hz with ⟨u1, u2⟩ | ⟨u1, u2⟩
    · rw [if_neg (by omega), if_neg (by omega), if_neg (by omega)]; exact h.1 j z u2
    · rw [if_pos u1, if_pos u1, if_pos u1, u2]; exact ⟨rfl, rfl, rfl⟩
  · rw [e4, List.map_append, List.mem_append]
    by_cases e : k' = k
    · subst e
      rw [if_pos rfl]
      exact ⟨fun _ => rfl, fun hn => absurd (Or.inr (by simp)) hn⟩
    · rw [if_neg (fun hh => e (ix1_inj hv hw h3 h3' hk' hk hh))]
      refine ⟨fun hm => (h.2 k' hk').1 ?_, fun hn => (h.2 k' hk').2 (fun hh => hn (Or.inl hh))⟩
      rcases hm with hm | hm
      · exact hm
      · simp at hm; exact absurd hm e
theorem m_diff {m o : Nat} {A B : AM} {x y : Option (Nat × Nat)} {I : MI} {J : MJ} {Q : Int64 → MI → MJ → Prop} (hm : m < 20) (ho : o < 20) (hA : RepM I m A) (hB : RepM I o B) (hv : VA A) (hw : VA B) (h3 : A.1 ≠ 3) (h3' : B.1 ≠ 3) (hx : okSo A x) (hy : okSo B y) (q : ∀ I' J', DfF I I' J J' → Q (fuN A B x y) I' J') : f_Model_difference (nI m) (en1 x) (nI o) (en1 y) I J Q := by
  have sA := SpS.firm hv h3
  have sB := SpS.firm hw h3'
  have hP0 : PPk (okS A) (okS B) (cdP x y) := ⟨x, y, rfl, hx, hy⟩
  have hPn : ∀ k a j, PPk (okS A) (okS B) k → a < 4 → nxP A B k a = some j → PPk (okS A) (okS B) j := fun k a j hk _ h => PP_nx hv hw sA sB hk h
  have hall : ∀ i k, k ∈ bfB (nxP A B) 4 (cdP x y) i → PPk (okS A) (okS B) k := bfB_inv hP0 hPn
  have hroom : ∀ i, (bfB (nxP A B) 4 (cdP x y) i).length ≤ 225 := fun i => pairs_225 hv hw sA sB (bfB_nd _ _ _ _) (hall i)
  have hcl : (bfB (nxP A B) 4 (cdP x y) 225).length ≤ 225 := hroom 225
  have hokP : ∀ {k : Nat}, PPk (okS A) (okS B) k → okSo A (dcP (k / 57)) ∧ okSo B (dcP (k % 57)) := fun {k} hk => by
    obtain ⟨x, y, rfl, hx, hy⟩ := hk
    obtain ⟨d1, d2⟩ := cd_dc hv hw (sA.ok hx) (sB.ok hy)
    rw [d1, d2]
    exact ⟨hx, hy⟩
  have hix : ∀ (x y : Option (Nat × Nat)), okSo A x → okSo B y → (16 * (en1 x + 1)) + en1 y + 1 = nI (ix1 (cdP x y)) := fun x y hx hy => by
    rw [Int32.add_assoc, en1_1, en1_1, l16, pk_mul, nI_add, (ix1_cd hv hw hx hy).1]
  unfold f_Model_difference
  refine lp2 (fun n (i : Nat) (I1 : MI) => f_Model_difference_L3 _ n (nI i) I1 J) (fun i I1 => i ≤ 256 ∧ DfF I I1 J J ∧ ∀ j, j < i → I1 204 j = 0) (fun i _ => 257 - i) ?_ 0 I ⟨Nat.zero_le _, DfF.rf, fun j hj => absurd hj (Nat.not_lt_zero _)⟩
  rintro n i I1 ⟨b1, b2, b3⟩ ih
  unfold f_Model_difference_L3
  by_cases ei : i = 256
  rotate_left
  · rw [l256, if_neg (show ¬ nI 256 ≤ nI i by rw [leNN (by decide) (by omega)]; omega), vpN (by omega), nI_clamp (by omega), nar0]
    refine ⟨by omega, fun I2 e2 t et => ?_⟩
    rw [et, nI_1]
    refine ih (i + 1) I2 ⟨by omega, b2.tr ⟨fun j a b c => by rw [e2, sI_n _ _ c], fun _ _ => rfl⟩, fun j hj => ?_⟩ (by omega)
    rw [e2, sI_s, upd_at]
    by_cases hji : j = i
    · rw [if_pos hji]
    · rw [if_neg hji]; exact b3 j (by omega)
  subst ei
  rw [l256, if_pos (by rw [leNN (by decide) (by decide)]; exact Nat.le_refl _), show (0 : Int32).toNatClampNeg = 0 from rfl]
  refine ⟨vp0 (by decide), fun I2 e2 => ⟨vp0 (by decide), fun I3 e3 => ⟨vp0 (by decide), fun J3 j3 => ?_⟩⟩⟩
  have hb := (ix1_cd hv hw hx hy).2
  rw [hix x y hx hy, vpN (by omega), nI_clamp (by omega), nar1]
  refine ⟨hb, fun I4 e4 => ?_⟩
  have c4 : DfF I I4 J J3 := b2.tr ⟨fun j a b c => by rw [e4, sI_n _ _ c, e3, sI_n _ _ b, e2, sI_n _ _ a], fun j a => by rw [j3, sJ_at, if_neg a]⟩
  have d0 : DfL A B I1 J [] := ⟨(fun j z hz => by simp at hz), fun k hk => ⟨(fun hh => by simp at hh), fun _ => by
    obtain ⟨x, y, rfl, hx, hy⟩ := hk
    exact b3 _ (ix1_cd hv hw hx hy).2⟩⟩
  have hdc := cd_dc hv hw hx.p hy.p
  have d4 : DfL A B I4 J3 (bfW (nxP A B) 4 (cdP x y) 0) := DfL.add hv hw h3 h3' d0 hP0 (fun j => by rw [e4, sI_n _ _ (by decide), e3, sI_n _ _ (by decide), e2, sI_s, upd_at, hdc.1]; rfl) (fun j => by rw [e4, sI_n _ _ (by decide), e3, sI_s, upd_at, e2, sI_n _ _ (by decide), hdc.2]; rfl) (fun j => by rw [j3, sJ_at, if_pos rfl, updL_at]; rfl) (fun j => by rw [e4, sI_s, upd_at, e3, sI_n _ _ (by decide), e2, sI_n _ _ (by decide)])
  refine lp3 (fun n (i : Nat) (I5 : MI) (J5 : MJ) => f_Model_difference_L70 (nI m) (nI o) _ _ n (nI (bfW (nxP A B) 4 (cdP x y) i).length) (nI i) I5 J5) (fun i I5 J5 => i ≤ (bfB (nxP A B) 4 (cdP x y) i).length ∧ DfL A B I5 J5 (bfW (nxP A B) 4 (cdP x y) i) ∧ DfF I I5 J J5 ∧ ∀ (j : Nat) (z : KW), j < i → (bfW (nxP A B) 4 (cdP x y) i)[j]? = some z → ¬ badP A B z.1) (fun i _ _ => 226 - i) ?_ 0 I4 J3 ⟨Nat.zero_le _, d4, c4, fun j z hj => absurd hj (Nat.not_lt_zero _)⟩
  rintro n i I5 J5 ⟨b1, b2, b3, b4⟩ ih
  have hri := hroom i
  have hlen := bfW_l (nxP A B) 4 (cdP x y) i
  have hA5 := b3.rep hA
  have hB5 := b3.rep hB
  have b0 : i ≤ 225 := by omega
  unfold f_Model_difference_L70
  by_cases ei : (bfW (nxP A B) 4 (cdP x y) i).length ≤ i
  · rw [if_pos (by rw [leNN (by omega) (by omega)]; exact ei)]
    have hW := bfW_cl (nx := nxP A B) (K := 4) (k0 := cdP x y) (i := i) (by omega) 225 b0
    have hnone : leastN (WdP (fuP A B x y)) = none := by
      refine bf_none (Nat.le_refl _) hcl (P_iff hv hw hx.p hy.p hv.2.2.1 hw.2.2.1) (fun j z hz => ?_)
      rw [hW] at hz
      have := (List.getElem?_eq_some_iff.mp hz).1
      exact b4 j z (by omega) hz
    have := q I5 J5 b3
    unfold fuN at this
    rw [hnone] at this
    exact this
  · have hil : i < (bfW (nxP A B) 4 (cdP x y) i).length := by omega
    have hz := List.getElem?_eq_getElem hil
    generalize (bfW (nxP A B) 4 (cdP x y) i)[i] = z at hz
    have hzk : (bfB (nxP A B) 4 (cdP x y) i)[i]? = some z.1 := by rw [← bfW_k, List.getElem?_map, hz]; rfl
    have hPz := hall i z.1 (List.mem_of_getElem? hzk)
    obtain ⟨okx, oky⟩ := hokP hPz
    obtain ⟨l1', l2', l3'⟩ := b2.1 i z hz
    rw [if_neg (by rw [leNN (by omega) (by omega)]; exact ei), vpN (by omega), nI_clamp (by omega), l1', m_says1 hm hA5 hv okx.p, l2', m_says1 ho hB5 hw oky.p]
    refine ⟨by omega, by omega, ?_⟩
    have a8 := anO_8 hv okx.p
    have b8 := anO_8 hw oky.p
    by_cases eb : anO A (dcP (z.1 / 57)) = anO B (dcP (z.1 % 57))
    · rw [if_pos (by rw [eb])]
      have hst := bfW_step hz
      refine lp3 (fun n (a : Nat) (I6 : MI) (J6 : MJ) => f_Model_difference_L115 (nI m) (nI o) (nI i) _ n (nI (rowW (nxP A B z.1) z.2 a (bfW (nxP A B) 4 (cdP x y) i)).length) (nI a) I6 J6) (fun a I6 J6 => a ≤ 4 ∧ DfL A B I6 J6 (rowW (nxP A B z.1) z.2 a (bfW (nxP A B) 4 (cdP x y) i)) ∧ DfF I I6 J J6) (fun a _ _ => 5 - a) ?_ 0 I5 J5 ⟨Nat.zero_le _, b2, b3⟩
      rintro n2 a I6 J6 ⟨c0, c1, c2⟩ ih2
      unfold f_Model_difference_L115
      by_cases ea : a = 4
      · subst ea
        rw [l4, if_pos (by rw [leNN (by omega) (by omega)]; exact Nat.le_refl _), nI_1, forall_eq]
        rw [← hst] at c1 ⊢
        have hri1 := hroom (i + 1)
        have hmono := bfB_len (nxP A B) 4 (cdP x y) (show i ≤ i + 1 by omega)
        refine ih (i + 1) I6 J6 ⟨by omega, c1, c2, fun j u hj hu => ?_⟩ (by omega)
        obtain ⟨E, hE⟩ := bfW_mono (nxP A B) 4 (cdP x y) (show i ≤ i + 1 by omega)
        rw [hE] at hu
        by_cases hji : j = i
        · subst hji
          rw [pre_get hz] at hu
          cases hu
          unfold badP
          rw [eb]
          exact fun h => h rfl
        · rw [List.getElem?_append_left (by omega)] at hu
          exact b4 j u (by omega) hu
      · have ha4 : a < 4 := by omega
        obtain ⟨E, hE⟩ := rowW_p (nxP A B z.1) z.2 (Nat.zero_le a) (bfW (nxP A B) 4 (cdP x y) i)
        have hza : (rowW (nxP A B z.1) z.2 a (bfW (nxP A B) 4 (cdP x y) i))[i]? = some z := by rw [hE]; exact pre_get hz
        obtain ⟨k1, k2, k3⟩ := c1.1 i z hza
        have hnx : nxP A B z.1 a = some (cdP ((dcP (z.1 / 57)).bind (fun q => dl A q a)) ((dcP (z.1 % 57)).bind (fun q => dl B q a))) := rfl
        have okx' := okSo_dl hv okx a
        have oky' := okSo_dl hw oky a
        rw [l4, if_neg (by rw [leNN (by omega) (by omega)]; omega), vpN (by omega), nI_clamp (by omega), k1, m_leads1 hm (c2.rep hA) hv h3 okx ha4, k2, m_leads1 ho (c2.rep hB) hw h3' oky ha4, hix _ _ okx' oky']
        refine ⟨by omega, by omega, ?_⟩
        have hPk := hPn z.1 a _ hPz ha4 hnx
        have hbk := (ix1_cd hv hw okx' oky').2
        have hdk := cd_dc hv hw okx'.p oky'.p
        generalize (dcP (z.1 / 57)).bind (fun q => dl A q a) = x' at *
        generalize (dcP (z.1 % 57)).bind (fun q => dl B q a) = y' at *
        have hrs : rowW (nxP A B z.1) z.2 (a + 1) (bfW (nxP A B) 4 (cdP x y) i) = pushW (rowW (nxP A B z.1) z.2 a (bfW (nxP A B) 4 (cdP x y) i)) (cdP x' y') (z.2 ++ [a]) := by
          conv => lhs; unfold rowW
          rw [hnx]
        have hlr : (rowW (nxP A B z.1) z.2 a (bfW (nxP A B) 4 (cdP x y) i)).length = (rowL (nxP A B z.1) a (bfB (nxP A B) 4 (cdP x y) i)).length := by rw [← bfW_k, ← rowW_k (wx := z.2), List.length_map]
        have hnd : (rowL (nxP A B z.1) a (bfB (nxP A B) 4 (cdP x y) i)).Nodup := rowL_nd a (bfB_nd _ _ _ _)
        have hnd2 := pushL_nd (k := cdP x' y') hnd
        have h225 := pairs_225 hv hw sA sB hnd2 (fun j hj => by
            rcases pushL_new hj with hj | hj
            · rcases rowL_new hj with hj | ⟨b, hb1, hb2⟩
              · exact hall i j hj
              · exact hPn z.1 b j hPz (by omega) hb2
            · rw [hj]; exact hPk)
        unfold pushL at h225
        rw [vpN (by omega), nI_clamp (by omega)]
        refine ⟨hbk, ?_⟩
        unfold f_Model_difference_b234
        by_cases hin : cdP x' y' ∈ (rowW (nxP A B z.1) z.2 a (bfW (nxP A B) 4 (cdP x y) i)).map (fun x => x.1)
        · rw [(c1.2 _ hPk).1 hin, if_neg (by decide), nI_1, forall_eq]
          have hp : pushW (rowW (nxP A B z.1) z.2 a (bfW (nxP A B) 4 (cdP x y) i)) (cdP x' y') (z.2 ++ [a]) = rowW (nxP A B z.1) z.2 a (bfW (nxP A B) 4 (cdP x y) i) := by unfold pushW; rw [if_pos hin]
          rw [hp] at hrs
          have := ih2 (a + 1) I6 J6 ⟨by omega, by rw [hrs]; exact c1, c2⟩ (by omega)
          rw [hrs] at this
          exact this
        · have hp : pushW (rowW (nxP A B z.1) z.2 a (bfW (nxP A B) 4 (cdP x y) i)) (cdP x' y') (z.2 ++ [a]) = rowW (nxP A B z.1) z.2 a (bfW (nxP A B) 4 (cdP x y) i) ++ [(cdP x' y', z.2 ++ [a])] := by unfold pushW; rw [if_neg hin]
          rw [hp] at hrs
          have hin' := hin
          rw [rowW_k, bfW_k] at hin'
          rw [if_neg hin', List.length_append] at h225
          simp only [List.length_cons, List.length_nil] at h225
          rw [(c1.2 _ hPk).2 hin, if_pos rfl, nar1, vpN (by omega), nI_clamp (by omega)]
          refine ⟨hbk, fun I7 e7 => ⟨by omega, fun I8 e8 => ⟨by omega, fun I9 e9 => ⟨by omega, by omega, fun J9 j9 => ?_⟩⟩⟩⟩
          rw [nI_1, nI_1, forall_eq, forall_eq]
          rw [k3, nI_l (by omega), show (4 : Int64) = lN 4 from rfl, lN_mul, lN_add, ← num_app] at j9
          have := ih2 (a + 1) I9 J9 ⟨by omega, ?_, c2.tr ⟨fun j u v w => by rw [e9, sI_n _ _ v, e8, sI_n _ _ u, e7, sI_n _ _ w], fun j u => by rw [j9, sJ_at, if_neg u]⟩⟩ (by omega)
          · rw [hrs, List.length_append] at this
            exact this
          · rw [hrs]
            exact DfL.add hv hw h3 h3' c1 hPk (fun j => by rw [e9, sI_n _ _ (by decide), e8, sI_s, upd_at, e7, sI_n _ _ (by decide), hdk.1]) (fun j => by rw [e9, sI_s, upd_at, e8, sI_n _ _ (by decide), e7, sI_n _ _ (by decide), hdk.2]) (fun j => by rw [j9, sJ_at, if_pos rfl, updL_at]) (fun j => by rw [e9, sI_n _ _ (by decide), e8, sI_n _ _ (by decide), e7, sI_s, upd_at])
    · rw [if_neg (by rw [eqNN (by omega) (by omega)]; exact eb), l3']
      refine ⟨by omega, ?_⟩
      obtain ⟨E, hE⟩ := bfW_mono (nxP A B) 4 (cdP x y) b0
      have hsome : leastN (WdP (fuP A B x y)) = some (num z.2) := by
        refine bf_some (Nat.le_refl _) hcl (P_iff hv hw hx.p hy.p hv.2.2.1 hw.2.2.1) (i := i) (x := z) (by rw [hE]; exact pre_get hz) (show badP A B z.1 from eb) (fun j y hj hy => ?_)
        rw [hE, List.getElem?_append_left (by omega)] at hy
        exact b4 j y hj hy
      have := q I5 J5 b3
      unfold fuN at this
      rw [hsome] at this
      exact this
theorem fuP_least {A B : AM} (hv : VA A) (hw : VA B) (hg : ¬ grt A) (hg' : ¬ grt B) : fuN (leastA A) (leastA B) (some (0, 0)) (some (0, 0)) = fuN A B (some (0, 0)) (some (0, 0)) := by
  have : fuP (leastA A) (leastA B) (some (0, 0)) (some (0, 0)) = fuP A B (some (0, 0)) (some (0, 0)) := by
    funext v
    show (anO (leastA A) (run (leastA A) (0, 0) v) ≠ anO (leastA B) (run (leastA B) (0, 0) v)) = (anO A (run A (0, 0) v) ≠ anO B (run B (0, 0) v))
    rw [← ansF_o, ← ansF_o, ← ansF_o, ← ansF_o, leastA_ans hv hg, leastA_ans hw hg']
  unfold fuN
  rw [this]
theorem M_differ {x y : Int32} {I : MI} {J : MJ} {σ : SG} {Q : Int64 → MI → MJ → Prop} (h : AbsM I J σ) (q : KMg I J (opDiffer x y σ, σ) Q) : f_Model_differ x y I J Q := by
  unfold f_Model_differ
  rw [M_isM h]
  unfold opDiffer at q
  have q0 : ∀ v : Int64, KMg I J (v, σ) Q → Q v I J := fun v k => k I J FrM.rf h
  rcases maC_cases σ x with ⟨p, A, hp, rfl, ht, e, e0⟩ | ⟨e, e0⟩
  · rw [e] at q
    rw [if_pos e0, if_neg (by decide), M_isM h]
    simp only at q
    have hP := (h.1 p hp).1
    rw [ht] at hP
    obtain ⟨g1, g2, g3⟩ := hP
    rcases maC_cases σ y with ⟨r, B, hr, rfl, hs, f, f0⟩ | ⟨f, f0⟩
    · rw [f] at q
      rw [if_pos f0, if_neg (by decide), l18, l19]
      simp only at q
      have hP := (h.1 r hr).1
      rw [hs] at hP
      obtain ⟨k1, k2, k3⟩ := hP
      refine m_least (by omega) (by decide) (by decide) g2 g3 (fun hg I1 J1 s1 _ => ?_) (fun hg I1 J1 s1 me1 r1 _ => ?_)
      · rw [if_pos rfl]
        rw [if_pos hg] at q
        exact q I1 J1 s1.2.2.2.2 (s1.abs h)
      · rw [if_neg (by decide)]
        rw [if_neg hg] at q
        have hvl := leastA_VL g3 hg
        refine m_least (by omega) (by decide) (by decide) (k2.kp k3 (s1.2.2.1 r (by omega))) k3 (fun hg2 I2 J2 s2 _ => ?_) (fun hg2 I2 J2 s2 me2 r2 _ => ?_)
        · rw [if_pos rfl]
          rw [if_pos hg2] at q
          exact q I2 J2 (s1.tr s2).2.2.2.2 ((s1.tr s2).abs h)
        · rw [if_neg (by decide)]
          rw [if_neg hg2, ← fuP_least g3 k3 hg hg2] at q
          have hvl2 := leastA_VL k3 hg2
          refine m_diff (x := some (0, 0)) (y := some (0, 0)) (by decide) (by decide) (r1.kp hvl.1 (me2 18 (by decide) (by decide))) r2 hvl.1 hvl2.1 (by have := hvl.2.1; omega) (by have := hvl2.2.1; omega) (okSo_0 hvl.1) (okSo_0 hvl2.1) (fun I3 J3 d3 => ?_)
          exact q I3 J3 ((s1.tr s2).tr d3.ms).2.2.2.2 (((s1.tr s2).tr d3.ms).abs h)
    · rw [f] at q
      rw [if_neg f0]
      exact q0 _ q
  · rw [e] at q
    rw [if_neg e0]
    exact q0 _ q
