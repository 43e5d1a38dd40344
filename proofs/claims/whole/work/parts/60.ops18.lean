theorem AbsM.s26 {I : MI} {J : MJ} {σ : SG} (h : AbsM I J σ) (v : Int32) : AbsM (sI I 177 (upd (I 177) 26 v)) J σ := h.s177 (fun k hk => by rw [sI_s, pk_un (by intro e; subst e; revert hk; decide)]) (fun i hi => sI_n _ _ hi)
theorem FrM.s26 {I : MI} {J : MJ} (v : Int32) : FrM I (sI I 177 (upd (I 177) 26 v)) J J := ⟨fun i hi => sI_n _ _ (by omega), fun _ _ => rfl⟩
theorem M_drawR {p i : Nat} {A : AM} {v : Nat} {r : ROW} {I : MI} {J : MJ} {σ : SG} {K : MI → MJ → Prop} (hp : p < 16) (h : AbsM I J (setA σ (nI p) A)) (hz : A.2.2[i]? = some (some r, v)) (k : ∀ I', FrM I I' J J → I' 177 26 = (drR (aN A) A.1 (I 177 26) r).2 → AbsM I' J (setA σ (nI p) (setQ A i (some (drR (aN A) A.1 (I 177 26) r).1, v))) → K I' J) : ∃ n, f_Model_draw_L38 (nI p) (nI i) K n 0 I J := by
  have hv : VA A := by have := (h.1 p hp).1; rw [setA_atN hp] at this; exact this.2.2
  have hi := (List.getElem?_eq_some_iff.mp hz).1
  have h14 := (hv.row4 hz).1
  have hn1 := hv.2.2.2.1
  refine lp3 (fun n (u1_ : ROW) (u2_ : ROW) (u3_ : MI) => f_Model_draw_L38 (nI p) (nI i) K n (nI u1_.length) u3_ J) (fun u1_ u2_ u3_ => AbsM u3_ J (setA σ (nI p) (setQ A i (some (u1_ ++ u2_), v))) ∧ FrM I u3_ J J ∧ drR (aN A) A.1 (I 177 26) r = (u1_ ++ (drR (aN A) A.1 (u3_ 177 26) u2_).1, (drR (aN A) A.1 (u3_ 177 26) u2_).2)) (fun u1_ u2_ u3_ => u2_.length) ?_ [] r I ⟨by simp only [List.nil_append]; rw [setQ_id hz]; exact h, FrM.rf, by simp⟩
  rintro n rd rr I1 ⟨a1, a2, a3⟩ ih
  have hP := (a1.1 p hp).1
  rw [setA_atN hp] at hP
  obtain ⟨g1, g2, g3⟩ := hP
  have hz1 : (setQ A i (some (rd ++ rr), v)).2.2[i]? = some (some (rd ++ rr), v) := setQ_get hi
  have hl4 := (g3.row4 hz1).2 _ rfl
  rw [List.length_append] at hl4
  have hk : (setQ A i (some (rd ++ rr), v)).1 = A.1 := rfl
  unfold f_Model_draw_L38
  rw [l14, pk_mul, nI_add, vpN (by omega), nI_clamp (by omega), ((g2.2.2.2 i _ hz1).2.2 _ rfl).1]
  refine ⟨by omega, ?_⟩
  simp only [List.length_append, leNN (show rd.length + rr.length < 2 ^ 31 by omega) (show rd.length < 2 ^ 31 by omega)]
  cases rr with
  | nil =>
    rw [if_pos (by simp)]
    have e1 : (drR (aN A) A.1 (I 177 26) r).1 = rd := by rw [a3]; simp [drR]
    have e2 : (drR (aN A) A.1 (I 177 26) r).2 = I1 177 26 := by rw [a3]; simp [drR]
    rw [e1, e2] at k
    rw [List.append_nil] at a1
    exact k I1 a2 rfl a1
  | cons y rr =>
    rw [if_neg (by simp)]
    simp only [List.length_cons] at hl4
    rw [spotN, vpN (by omega), nI_clamp (by omega), nI_clamp (by omega), g2.2.1, setQ_n]
    refine ⟨by omega, ?_⟩
    rw [m_next (by omega) hv.n31, vpN (by omega)]
    refine ⟨by omega, fun I2 e2 => ?_⟩
    have hyg : (rd ++ y :: rr)[rd.length]? = some y := by simp
    obtain ⟨y1, y2, y3⟩ := ((g3.2.2.2.2.2 _ (List.mem_of_getElem? hz1)).2.2 _ rfl).2 y (by simp)
    have b1 := (a1.s26 (stir (I1 177 26))).setX (v := nI (bel (stir (I1 177 26)) (aN A))) hp (setA_atN hp) hz1 rfl hyg (y' := (some (bel (stir (I1 177 26)) (aN A)), y.2)) (t := 189) (fun t ht => by cases ht; rw [setQ_n]; exact bel_lt _ hn1) (fun _ hh => by cases hh) y2 y3 (Or.inl ⟨rfl, rfl, rfl⟩) e2
    rw [setA_f hp, setX_row hz1, setQ_setQ] at b1
    have c1 : FrM I I2 J J := (a2.tr (FrM.s26 (stir (I1 177 26)))).tr ⟨fun j hj => by rw [e2, sI_n _ _ (by omega)], fun _ _ => rfl⟩
    have hx2 : I2 177 26 = stir (I1 177 26) := by rw [e2, sI_n _ _ (by omega), sI_s, pk_us]
    have hI2 : I2 178 p = nI A.1 := by
      have hQ := (b1.1 p hp).1
      rw [setA_atN hp] at hQ
      exact hQ.1
    rw [hI2, vpN (by omega)]
    refine ⟨hp, ?_⟩
    unfold f_Model_draw_b103
    by_cases h3 : A.1 = 3
    · rw [if_pos (show nI A.1 = 3 by rw [h3]; rfl), spotN, l4, m_next (by decide) (by decide), vpN (by omega), hx2]
      refine ⟨by omega, fun I3 e3 t et => ?_⟩
      rw [nI_clamp (by omega)] at e3
      rw [et, nI_1]
      have hz2 : (setQ A i (some (rd ++ (some (bel (stir (I1 177 26)) (aN A)), y.2) :: rr), v)).2.2[i]? = some (some (rd ++ (some (bel (stir (I1 177 26)) (aN A)), y.2) :: rr), v) := setQ_get hi
      have hyg2 : (rd ++ (some (bel (stir (I1 177 26)) (aN A)), y.2) :: rr)[rd.length]? = some (some (bel (stir (I1 177 26)) (aN A)), y.2) := by simp
      have b2 := (b1.s26 (stir (stir (I1 177 26)))).setX (v := nI (bel (stir (stir (I1 177 26))) 4)) hp (setA_atN hp) hz2 rfl hyg2 (y' := (some (bel (stir (I1 177 26)) (aN A)), bel (stir (stir (I1 177 26))) 4)) (t := 190) (fun t ht => by cases ht; rw [setQ_n]; exact bel_lt _ hn1) (fun _ hh => by cases hh) (by have := bel_lt (stir (stir (I1 177 26))) (m := 4) (by decide); show bel _ 4 ≤ 3; omega) (fun hh => absurd h3 hh) (Or.inr ⟨rfl, rfl, rfl⟩) e3
      rw [setA_f hp, setX_row hz2, setQ_setQ] at b2
      have hx3 : I3 177 26 = stir (stir (I1 177 26)) := by rw [e3, sI_n _ _ (by omega), sI_s, pk_us]
      have := ih (rd ++ [(some (bel (stir (I1 177 26)) (aN A)), bel (stir (stir (I1 177 26))) 4)]) rr I3 ⟨by simp only [List.append_assoc, List.singleton_append]; exact b2, (c1.tr (FrM.s26 _)).tr ⟨fun j hj => by rw [e3, sI_n _ _ (by omega)], fun _ _ => rfl⟩, by rw [a3]; simp [drR, h3, hx3]⟩ (by simp)
      simp only [List.length_append, List.length_singleton] at this
      exact this
    · rw [if_neg (show ¬ nI A.1 = 3 by rw [l3, eqNN (by have := hv.1; omega) (by decide)]; exact h3)]
      intro t et
      rw [et, nI_1]
      have := ih (rd ++ [(some (bel (stir (I1 177 26)) (aN A)), y.2)]) rr I2 ⟨by simp only [List.append_assoc, List.singleton_append]; exact b1, c1, by rw [a3]; simp [drR, h3, hx2]⟩ (by simp)
      simp only [List.length_append, List.length_singleton] at this
      exact this
theorem M_draw {x v : Int32} {I : MI} {J : MJ} {σ : SG} {Q : Int32 → MI → MJ → Prop} (h : AbsM I J σ) (q : KM I J (opDraw x v σ) Q) : f_Model_draw x v I J Q := by
  unfold f_Model_draw
  rw [M_noM h]
  unfold opDraw at q
  rcases maC_cases σ x with ⟨p, A, hp, rfl, ht, e, e0⟩ | ⟨e, e0⟩
  · rw [e] at q
    simp only at q
    rw [e0, if_pos rfl]
    intro I0 e00
    have h0 := h.s26 v
    rw [← e00] at h0
    have f0 := FrM.s26 (I := I) (J := J) v
    rw [← e00] at f0
    have x0 : I0 177 26 = v := by rw [e00, sI_s, pk_us]
    obtain ⟨kd, kk, L⟩ := A
    have hv : VA (kd, kk, L) := by have := (h.1 p hp).1; rw [ht] at this; exact this.2.2
    refine lp3 (fun n (u1_ : List (Option ROW × Nat)) (u2_ : List (Option ROW × Nat)) (u3_ : MI) => f_Model_draw_L25 (nI p) _ n (nI u1_.length) u3_ J) (fun u1_ u2_ u3_ => AbsM u3_ J (setA σ (nI p) (kd, kk, u1_ ++ u2_)) ∧ FrM I u3_ J J ∧ u1_.length + u2_.length = L.length ∧ drL L.length kd v L = u1_ ++ drL L.length kd (u3_ 177 26) u2_) (fun u1_ u2_ u3_ => u2_.length) ?_ [] L I0 ⟨by simp only [List.nil_append]; rw [setA_self hp ht]; exact h0, f0, by simp, by simp [x0]⟩
    rintro n D R I1 ⟨a1, a2, a4, a3⟩ ih
    have hP := (a1.1 p hp).1
    rw [setA_atN hp] at hP
    obtain ⟨g1, g2, g3⟩ := hP
    have hl := g3.2.2.2.2.1
    rw [aN_app] at hl
    unfold f_Model_draw_L25
    rw [vpN (by omega), nI_clamp (by omega), g2.2.1, aN_app]
    refine ⟨by omega, ?_⟩
    simp only [leNN (show D.length + R.length < 2 ^ 31 by omega) (show D.length < 2 ^ 31 by omega)]
    cases R with
    | nil =>
      rw [if_pos (by simp)]
      have : drL (aN (kd, kk, L)) kd v L = D := by show drL L.length kd v L = D; rw [a3]; simp [drL]
      rw [this] at q
      rw [List.append_nil] at a1
      exact q.don a2 a1
    | cons z R =>
      rw [if_neg (by simp)]
      have hz : (D ++ z :: R)[D.length]? = some z := by simp
      have hz1 : ((kd, kk, D ++ z :: R) : AM).2.2[D.length]? = some z := hz
      have h14 := (g3.row4 hz1).1
      have hn : aN (kd, kk, D ++ z :: R) = L.length := by rw [aN_app]; exact a4
      have fin : ∀ (z' : Option ROW × Nat) (I2 : MI), z'.2 = z.2 → AbsM I2 J (setA σ (nI p) (kd, kk, D ++ z' :: R)) → FrM I I2 J J → drS L.length kd (I1 177 26) z = ((z'.1, bel (stir (I2 177 26)) (if kd = 0 then 2 else 8)), stir (I2 177 26)) → vp_in (nI p) 16 ∧ (if (I2 178 (nI p).toNatClampNeg) = 0 then f_Model_draw_b135 (nI D.length) ((14 * nI p) + nI D.length) 2 (f_Model_draw_L25 (nI p) (fun (I : MI) (J : MJ) => f_Model_done (0 : Int32) I J (fun r147 I147 J147 => Q r147 I147 J147)) n) I2 J else f_Model_draw_b135 (nI D.length) ((14 * nI p) + nI D.length) 8 (f_Model_draw_L25 (nI p) (fun (I : MI) (J : MJ) => f_Model_done (0 : Int32) I J (fun r147 I147 J147 => Q r147 I147 J147)) n) I2 J) := by
        intro z' I2 hz2 b1 b2 b3
        have hP2 := (b1.1 p hp).1
        rw [setA_atN hp] at hP2
        obtain ⟨k1, k2, k3⟩ := hP2
        have hzz : ((kd, kk, D ++ z' :: R) : AM).2.2[D.length]? = some z' := by show (D ++ z' :: R)[D.length]? = some z'; simp
        have go : ∀ m : Nat, 0 < m → m ≤ 8 → (if kd = 0 then 2 else 8) = m → f_Model_draw_b135 (nI D.length) (nI (14 * p + D.length)) (nI m) (f_Model_draw_L25 (nI p) (fun (I : MI) (J : MJ) => f_Model_done (0 : Int32) I J (fun r147 I147 J147 => Q r147 I147 J147)) n) I2 J := by
          intro m hm0 hm8 hmk
          unfold f_Model_draw_b135
          rw [m_next hm0 (by omega), vpN (by omega), nI_clamp (by omega)]
          refine ⟨by omega, fun I3 e3 t et => ?_⟩
          rw [et, nI_1]
          have hb := bel_lt (stir (I2 177 26)) hm0
          have c1 := (b1.s26 (stir (I2 177 26))).setV (v := bel (stir (I2 177 26)) m) hp (setA_atN hp) hzz (by show bel _ _ ≤ if kd = 0 then 1 else 7; split at hmk <;> rename_i hk0 <;> simp only [hk0, if_true, if_false] <;> omega) e3
          rw [setA_f hp, setQ_app] at c1
          have hx3 : I3 177 26 = stir (I2 177 26) := by rw [e3, sI_n _ _ (by omega), sI_s, pk_us]
          have := ih (D ++ [(z'.1, bel (stir (I2 177 26)) m)]) R I3 ⟨by simp only [List.append_assoc, List.singleton_append]; exact c1, (b2.tr (FrM.s26 _)).tr ⟨fun j hj => by rw [e3, sI_n _ _ (by omega)], fun _ _ => rfl⟩, by simp only [List.length_append, List.length_singleton]; simp only [List.length_cons] at a4; omega, by rw [a3]; simp [drL, b3, hmk, hx3]⟩ (by simp)
          simp only [List.length_append, List.length_singleton] at this
          exact this
        rw [vpN (by omega), nI_clamp (by omega), k1, l14, pk_mul, nI_add]
        refine ⟨hp, ?_⟩
        by_cases hk0 : kd = 0
        · rw [if_pos (show nI (kd, kk, D ++ z' :: R).1 = 0 by show nI kd = 0; rw [hk0]; rfl)]
          exact go 2 (by decide) (by decide) (by rw [if_pos hk0])
        · rw [if_neg (show ¬ nI (kd, kk, D ++ z' :: R).1 = 0 by show ¬ nI kd = 0; rw [l0, eqNN (by have : kd ≤ 3 := hv.1; omega) (by decide)]; exact hk0)]
          exact go 8 (by decide) (by decide) (by rw [if_neg hk0])
      cases hr : z.1 with
      | none =>
        refine ⟨1, ?_⟩
        unfold f_Model_draw_L38
        rw [l14, pk_mul, nI_add, vpN (by omega), nI_clamp (by omega), (g2.2.2.2 _ z hz1).2.1 hr, if_pos (by decide)]
        have := fin z I1 rfl a1 a2 (by simp [drS, hr])
        rw [l14, pk_mul, nI_add, nI_clamp (by omega)] at this
        exact ⟨by omega, this⟩
      | some r =>
        have hz2 : ((kd, kk, D ++ z :: R) : AM).2.2[D.length]? = some (some r, z.2) := by rw [hz1, ← hr]
        refine M_drawR hp a1 hz2 (fun I2 b1 bx b2 => ?_)
        rw [setQ_app, hn] at b2
        rw [hn] at bx
        have f := fin (some (drR L.length kd (I1 177 26) r).1, z.2) I2 rfl b2 (a2.tr b1) (by simp [drS, hr, bx])
        rw [nI_clamp (show p < 2 ^ 31 by omega)] at f
        exact f
  · rw [e] at q
    rw [if_neg e0, M_noM h]
    exact q.ref h
