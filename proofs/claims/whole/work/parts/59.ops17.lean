theorem AbsS.setV {p i v : Nat} {A : AM} {z : Option ROW × Nat} {I I1 : MI} {J : MJ} {σ : SG} (h : AbsS I J σ) (hp : p < 16) (ht : σ.1 p = some (.inl A)) (hz : A.2.2[i]? = some z) (hvv : v ≤ (if A.1 = 0 then 1 else 7)) (e1 : I1 = sI I (1 + 64 + 7 * p + 1 + 4) (upd (I (1 + 64 + 7 * p + 1 + 4)) i (nI v))) : AbsS I1 J (setF (setD σ p (some (.inl (setQ A i (z.1, v))))) p (σ.2.1 p)) := by
  have hP := (h.1 p hp).1
  rw [ht] at hP
  obtain ⟨g1, g2, g3⟩ := hP
  have hI : ∀ j, j ≠ 1 + 64 + 7 * p + 1 + 4 → I1 j = I j := fun j hj => by rw [e1, sI_n _ _ hj]
  have h4 : ∀ j, I1 (1 + 64 + 7 * p + 1 + 4) j = if j = i then nI v else I (1 + 64 + 7 * p + 1 + 4) j := fun j => by rw [e1, sI_s, upd_at]
  obtain ⟨r1, r2, r3⟩ := g2.2.2.2 i z hz
  have hvr := g3.2.2.2.2.2 z (List.mem_of_getElem? hz)
  have hi := (List.getElem?_eq_some_iff.mp hz).1
  exact h.mach hp ht (fun j hj => hI j (by omega)) rfl (g2.set g3 hi (hI _ (by omega)) (fun j _ => by rw [hI _ (by omega)]) (fun j hj => by rw [h4, if_neg hj]) (fun j _ => by rw [hI _ (by omega), hI _ (by omega)]; exact ⟨rfl, rfl⟩) ⟨by rw [h4, if_pos rfl], fun hn => by rw [hI _ (by omega)]; exact r2 hn, fun r hr => by rw [hI _ (by omega), hI _ (by omega), hI _ (by omega)]; exact r3 r hr⟩) (setQ_VA g3 ⟨hvv, hvr.2.1, hvr.2.2⟩)
theorem AbsM.setV {p i v : Nat} {A : AM} {z : Option ROW × Nat} {I I1 : MI} {J : MJ} {σ : SG} (h : AbsM I J σ) (hp : p < 16) (ht : σ.1 p = some (.inl A)) (hz : A.2.2[i]? = some z) (hvv : v ≤ (if A.1 = 0 then 1 else 7)) (e1 : I1 = sI I 187 (upd (I 187) (14 * p + i) (nI v))) : AbsM I1 J (setF (setD σ p (some (.inl (setQ A i (z.1, v))))) p (σ.2.1 p)) := by
  have hP := (h.1 p hp).1
  rw [ht] at hP
  obtain ⟨g1, g2, g3⟩ := hP
  have h14 := (g3.row4 hz).1
  have hI : ∀ j, j ≠ 187 → I1 j = I j := fun j hj => by rw [e1, sI_n _ _ hj]
  have h4 : ∀ j, I1 187 j = if j = 14 * p + i then nI v else I 187 j := fun j => by rw [e1, sI_s, upd_at]
  obtain ⟨r1, r2, r3⟩ := g2.2.2.2 i z hz
  have hvr := g3.2.2.2.2.2 z (List.mem_of_getElem? hz)
  have hi := (List.getElem?_eq_some_iff.mp hz).1
  exact h.mach hp ht (fun j hj => hI j (by omega)) (fun j hj => ⟨by rw [h4, if_neg (by omega)], by rw [hI 188 (by omega)]⟩) (fun j _ => ⟨by rw [hI 189 (by omega)], by rw [hI 190 (by omega)]⟩) rfl (g2.set g3 hi ⟨by rw [hI 184 (by omega)], by rw [hI 185 (by omega)], by rw [hI 186 (by omega)]⟩ (fun j hj => ⟨by rw [h4, if_neg hj], by rw [hI 188 (by omega)]⟩) (fun j _ => by rw [hI 189 (by omega), hI 190 (by omega)]; exact ⟨rfl, rfl⟩) ⟨by rw [h4, if_pos rfl], fun hn => by rw [hI 188 (by omega)]; exact r2 hn, fun r hr => by rw [hI 188 (by omega), hI 189 (by omega), hI 190 (by omega)]; exact r3 r hr⟩) (setQ_VA g3 ⟨hvv, hvr.2.1, hvr.2.2⟩)
theorem setQ_app {kd k : Nat} {D R : List (Option ROW × Nat)} {q q' : Option ROW × Nat} : setQ (kd, k, D ++ q :: R) D.length q' = (kd, k, D ++ q' :: R) := by simp [setQ]
theorem aN_app {kd k : Nat} {D R : List (Option ROW × Nat)} : aN (kd, k, D ++ R) = D.length + R.length := by simp [aN]
theorem drL_len (n kd : Nat) : ∀ (l : List (Option ROW × Nat)) (x : Int32), (drL n kd x l).length = l.length
  | [], _ => rfl
  | q :: l, x => by simp [drL, drL_len n kd l]
theorem S_draw {x v : Int32} {I : MI} {J : MJ} {σ : SG} {Q : Int32 → MI → MJ → Prop} (h : AbsS I J σ) (q : KS I J (opDraw x v σ) Q) : f_School_draw x v I J Q := by
  unfold f_School_draw
  rw [S_machF h]
  unfold opDraw at q
  rcases maC_cases σ x with ⟨p, A, hp, rfl, ht, e, e0⟩ | ⟨e, e0⟩
  · rw [e] at q
    simp only at q
    rw [e0, if_pos rfl, vpN (by omega), nI_clamp (by omega)]
    refine ⟨hp, ?_⟩
    obtain ⟨kd, kk, L⟩ := A
    unfold f_Machine_fillByNumbers
    have hv : VA (kd, kk, L) := by have := (h.1 p hp).1; rw [ht] at this; exact this.2.2
    refine lp4 (fun n (u1_ : List (Option ROW × Nat)) (u2_ : List (Option ROW × Nat)) (u3_ : Int32) (u4_ : MI) => f_Machine_fillByNumbers_L4 (1 + 64 + 7 * p + 1) _ n u3_ (nI u1_.length) u4_ J) (fun u1_ u2_ u3_ u4_ => AbsS u4_ J (setA σ (nI p) (kd, kk, u1_ ++ u2_)) ∧ FrS I u4_ J J ∧ u1_.length + u2_.length = L.length ∧ drL L.length kd v L = u1_ ++ drL L.length kd u3_ u2_) (fun u1_ u2_ u3_ u4_ => u2_.length) ?_ [] L v I ⟨by simp only [List.nil_append]; rw [setA_self hp ht]; exact h, FrS.rf, by simp, by simp⟩
    rintro n D R x1 I1 ⟨a1, a2, a4, a3⟩ ih
    have hP := (a1.1 p hp).1
    rw [setA_atN hp] at hP
    obtain ⟨g1, g2, g3⟩ := hP
    have hl := g3.2.2.2.2.1
    rw [aN_app] at hl
    unfold f_Machine_fillByNumbers_L4
    rw [g2.2.1, aN_app]
    simp only [leNN (show D.length + R.length < 2 ^ 31 by omega) (show D.length < 2 ^ 31 by omega)]
    cases R with
    | nil =>
      rw [if_pos (by simp)]
      have : drL (aN (kd, kk, L)) kd v L = D := by show drL L.length kd v L = D; rw [a3]; simp [drL]
      rw [this] at q
      rw [List.append_nil] at a1
      exact q.don a2 a1
    | cons z R =>
      rw [if_neg (by simp)]
      have hz : (D ++ z :: R)[D.length]? = some z := by simp
      have hz1 : ((kd, kk, D ++ z :: R) : AM).2.2[D.length]? = some z := hz
      have h14 := (g3.row4 hz1).1
      have hn : aN (kd, kk, D ++ z :: R) = L.length := by rw [aN_app]; exact a4
      have fin : ∀ (z' : Option ROW × Nat) (x2 : Int32) (I2 : MI), z'.2 = z.2 → AbsS I2 J (setA σ (nI p) (kd, kk, D ++ z' :: R)) → FrS I I2 J J → drS L.length kd x1 z = ((z'.1, bel (stir x2) (if kd = 0 then 2 else 8)), stir x2) → f_Machine_stirred x2 I2 J (fun r86 I86 J86 => f_Machine_answersOfKind (1 + 64 + 7 * p + 1) I86 J86 (fun r97 I97 J97 => f_Machine_below r86 r97 I97 J97 (fun r100 I100 J100 => vp_in (nI D.length) 14 ∧ ∀ I103 : MI, I103 = sI I100 (1 + 64 + 7 * p + 1 + 4) (upd (I100 (1 + 64 + 7 * p + 1 + 4)) (nI D.length).toNatClampNeg r100) → ∀ t104 : Int32, t104 = nI D.length + 1 → f_Machine_fillByNumbers_L4 (1 + 64 + 7 * p + 1) (fun (I : MI) (J : MJ) => f_School_done (0 : Int32) I J (fun r31 I31 J31 => Q r31 I31 J31)) n r86 t104 I103 J100))) := by
        intro z' x2 I2 hz2 b1 b2 b3
        have hP2 := (b1.1 p hp).1
        rw [setA_atN hp] at hP2
        obtain ⟨k1, k2, k3⟩ := hP2
        have hzz : ((kd, kk, D ++ z' :: R) : AM).2.2[D.length]? = some z' := by show (D ++ z' :: R)[D.length]? = some z'; simp
        have go : ∀ m : Nat, 0 < m → m ≤ 8 → (if kd = 0 then 2 else 8) = m → f_Machine_below (1103515245 * x2 + 12345) (nI m) I2 J (fun r100 I100 J100 => vp_in (nI D.length) 14 ∧ ∀ I103 : MI, I103 = sI I100 (1 + 64 + 7 * p + 1 + 4) (upd (I100 (1 + 64 + 7 * p + 1 + 4)) (nI D.length).toNatClampNeg r100) → ∀ t104 : Int32, t104 = nI D.length + 1 → f_Machine_fillByNumbers_L4 (1 + 64 + 7 * p + 1) (fun (I : MI) (J : MJ) => f_School_done (0 : Int32) I J (fun r31 I31 J31 => Q r31 I31 J31)) n (1103515245 * x2 + 12345) t104 I103 J100) := by
          intro m hm0 hm8 hmk
          rw [s_below hm0 (by omega), vpN (by omega), nI_clamp (by omega)]
          refine ⟨h14, fun I3 e3 t et => ?_⟩
          rw [et, nI_1]
          have hb := bel_lt (stir x2) hm0
          have c1 := b1.setV (v := bel (stir x2) m) hp (setA_atN hp) hzz (by show bel _ _ ≤ if kd = 0 then 1 else 7; split at hmk <;> rename_i hk0 <;> simp only [hk0, if_true, if_false] <;> omega) e3
          rw [setA_f hp, setQ_app] at c1
          have := ih (D ++ [(z'.1, bel (stir x2) m)]) R (stir x2) I3 ⟨by simp only [List.append_assoc, List.singleton_append]; exact c1, b2.tr ⟨fun j hj => by rw [e3, sI_n _ _ (by omega)], fun _ _ => rfl⟩, by simp only [List.length_append, List.length_singleton]; simp only [List.length_cons] at a4; omega, by rw [a3]; simp [drL, b3, hmk]⟩ (by simp)
          simp only [List.length_append, List.length_singleton] at this
          exact this
        rw [s_stir, s_kindN, k2.1]
        by_cases hk0 : kd = 0
        · rw [if_pos (show nI (kd, kk, D ++ z' :: R).1 = 0 by show nI kd = 0; rw [hk0]; rfl)]
          exact go 2 (by decide) (by decide) (by rw [if_pos hk0])
        · rw [if_neg (show ¬ nI (kd, kk, D ++ z' :: R).1 = 0 by show ¬ nI kd = 0; rw [l0, eqNN (by have : kd ≤ 3 := hv.1; omega) (by decide)]; exact hk0)]
          exact go 8 (by decide) (by decide) (by rw [if_neg hk0])
      cases hr : z.1 with
      | none =>
        refine ⟨1, ?_⟩
        unfold f_Machine_fillByNumbers_L15
        rw [vpN (by omega), nI_clamp (by omega), (g2.2.2.2 _ z hz1).2.1 hr, if_pos (by decide)]
        have f := fin z x1 I1 rfl a1 a2 (by simp [drS, hr])
        rw [vpN (by omega), nI_clamp (by omega)] at f
        exact ⟨h14, f⟩
      | some r =>
        have hz2 : ((kd, kk, D ++ z :: R) : AM).2.2[D.length]? = some (some r, z.2) := by rw [hz1, ← hr]
        refine S_drawR hp a1 hz2 (fun I2 b1 b2 => ?_)
        rw [setQ_app, hn] at b2
        rw [hn]
        exact fin (some (drR L.length kd x1 r).1, z.2) (drR L.length kd x1 r).2 I2 rfl b2 (a2.tr b1) (by simp [drS, hr])
  · rw [e] at q
    rw [if_neg e0]
    exact q.ref h
