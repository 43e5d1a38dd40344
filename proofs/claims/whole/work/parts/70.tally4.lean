/-! place -/
def rk (A : AM) (v : Nat) : List Nat → Option (Nat × Nat) → Nat
  | [], _ => 0
  | b :: w, x => sm (fun a => tl A v w.length (x.bind (fun q => dl A q a))) b + rk A v w (x.bind (fun q => dl A q b))
noncomputable section
def opPlace (x : Int32) (y : Int64) (σ : SG) : Int64 := match maC σ x with
  | none => -1
  | some A => match decW y with
    | none => -1
    | some w => if ansF A (0, 0) w = 8 then -1 else lN (sm (fun i => tl A (ansF A (0, 0) w) i (some (0, 0))) w.length + rk A (ansF A (0, 0) w) w (some (0, 0)))
end
theorem S_place {x : Int32} {y : Int64} {I : MI} {J : MJ} {σ : SG} {Q : Int64 → MI → MJ → Prop} (h : AbsS I J σ) (q : KSg I J (opPlace x y σ, σ) Q) : f_School_place x y I J Q := by
  unfold f_School_place
  rw [s_machAt h]
  unfold opPlace at q
  rcases maC_cases σ x with ⟨p, A, hp, rfl, ht, e, e0⟩ | ⟨e, e0⟩
  · rw [e] at q
    rw [if_pos e0, nI_clamp (by omega)]
    simp only at q ⊢
    have hP := (h.1 p hp).1
    rw [ht] at hP
    obtain ⟨g1, g2, g3⟩ := hP
    refine ⟨okM_p hp, ?_⟩
    rcases wd_cases y with ⟨w, hw, rfl, ew⟩ | ⟨hn, ew⟩
    · rw [ew] at q
      simp only at q
      refine s_isW hw ?_
      rw [if_neg (by decide)]
      unfold f_Tally_wordsBefore
      have a8 := ansF_8' g3 w
      have h30 := hw.1
      refine s_ansTo g2 g3 hw ?_
      by_cases h8 : ansF A (0, 0) w = 8
      · rw [if_pos (show nI (ansF A (0, 0) w) = 8 by rw [h8]; rfl)]
        rw [if_pos h8] at q
        exact q I J FrS.rf h
      · rw [if_neg (show ¬ nI (ansF A (0, 0) w) = 8 by rw [l8, eqNN (by omega) (by decide)]; exact h8)]
        rw [if_neg h8] at q
        generalize ansF A (0, 0) w = v at *
        refine s_len hw (s_fill1 (by omega) g2 g3 (by omega) (fun I1 J1 t1 w1 s1 => ?_))
        have hA1 := t1.rep (by omega) g2
        refine lp3 (fun n (z : Nat) (k : Nat) (J2 : MJ) => f_Tally_wordsBefore_L37 (1 + 64 + 7 * p + 1) (nI w.length) _ n (lN z) (nI (k + 1)) I1 J2) (fun z k J2 => k ≤ w.length ∧ TS I I1 J J2 ∧ WaysL J2 A v k ∧ z = sm (fun i => tl A v i (some (0, 0))) k) (fun _ k _ => w.length - k) ?_ 0 0 J1 ⟨Nat.zero_le _, t1, WaysL0 w1, rfl⟩
        rintro n2 z k J2 ⟨b1, b2, b3, b4⟩ ih
        unfold f_Tally_wordsBefore_L37
        by_cases ek : k = w.length
        · rw [if_pos (show nI w.length < nI (k + 1) by rw [ltNN (by omega) (by omega)]; omega), forall_eq]
          subst ek
          have q1 := q I1 J2 b2.fr (b2.abs h)
          rw [← b4] at q1
          refine lp4 (fun n (z' : Nat) (x : Option (Nat × Nat)) (d : List Nat) (u : Unit) => f_Tally_wordsBefore_L80 (1 + 64 + 7 * p + 1) (lN (num w)) _ n (lN z') (enP x) (nI d.length - 1) I1 J2) (fun z' x d _ => okSo A x ∧ (∃ i, d = w.drop i) ∧ z + rk A v w (some (0, 0)) = z' + rk A v d x) (fun _ _ d _ => d.length) ?_ z (some (0, 0)) w () ⟨okSo_0 g3, ⟨0, rfl⟩, rfl⟩
          rintro n3 z' x d _ ⟨c1, ⟨i, hd⟩, c3⟩ ih2
          unfold f_Tally_wordsBefore_L80
          cases d with
          | nil =>
            rw [if_pos (by decide)]
            rw [c3] at q1
            exact q1
          | cons b d =>
            have hi : i < w.length := by
              by_cases hh : i < w.length
              · exact hh
              · rw [List.drop_eq_nil_of_le (by omega)] at hd; cases hd
            have hd2 := List.drop_eq_getElem_cons hi
            rw [← hd] at hd2
            injection hd2 with hb hd3
            have hl : d.length = w.length - 1 - i := by rw [hd3, List.length_drop]; omega
            have hsg : w[w.length - 1 - d.length]? = some b := by
              rw [hl, show w.length - 1 - (w.length - 1 - i) = i by omega, List.getElem?_eq_getElem hi, hb]
            have hb4 : b < 4 := hw.2 b (List.mem_of_getElem? hsg)
            rw [List.length_cons, nI_pred, if_neg (nI0_lt (by omega)), s_sign hw (by omega) hsg]
            refine lp2 (fun n (z2 : Nat) (a : Nat) => f_Tally_wordsBefore_L96 (1 + 64 + 7 * p + 1) (enP x) (nI d.length) (nI b) _ n (lN z2) (nI a) I1 J2) (fun z2 a => a ≤ b ∧ z2 = z' + sm (fun a => tl A v d.length (x.bind (fun q => dl A q a))) a) (fun _ a => 4 - a) ?_ z' 0 ⟨Nat.zero_le _, rfl⟩
            rintro n4 z2 a ⟨d1, d2⟩ ih3
            unfold f_Tally_wordsBefore_L96
            by_cases ea : a = b
            · rw [if_pos (show nI b ≤ nI a by rw [ea, leNN (by omega) (by omega)]; omega), s_nextO hA1 g3 c1.p hb4, m1_add, forall_eq]
              refine ih2 z2 (x.bind (fun q => dl A q b)) d () ⟨okSo_dl g3 c1 b, ⟨i + 1, hd3⟩, ?_⟩ (by simp)
              rw [c3, d2, ea]
              simp only [rk]
              omega
            · rw [if_neg (show ¬ nI b ≤ nI a by rw [leNN (by omega) (by omega)]; omega), s_nextO hA1 g3 c1.p (by omega), s_ways g3 (b3 d.length (by omega)) (by omega) (okSo_dl g3 c1 a), forall_eq, lN_add, nI_1, forall_eq]
              exact ih3 _ (a + 1) ⟨by omega, by rw [d2]; simp only [sm]; omega⟩ (by omega)
        · have sw := fun R => @s_ways A v k (some (0, 0)) I1 J2 R g3 (b3 k (Nat.le_refl _)) (by omega) (okSo_0 g3)
          rw [show enP (some (0, 0)) = 0 from rfl] at sw
          rw [if_neg (show ¬ nI w.length < nI (k + 1) by rw [ltNN (by omega) (by omega)]; omega), nI_pred, sw, lN_add, forall_eq]
          refine s_fillL hA1 g3 (by omega) b3 s1 (fun J3 e3 w3 t et => ?_)
          rw [et, nI_1]
          exact ih _ (k + 1) J3 ⟨by omega, b2.tr ⟨fun _ _ => rfl, e3⟩, w3, by rw [b4]; rfl⟩ (by omega)
    · rw [ew] at q
      exact s_isWB hn (by rw [if_pos rfl]; exact q I J FrS.rf h)
  · rw [e] at q
    rw [if_neg e0]
    exact q I J FrS.rf h
