/-! learning a word: where the pupil goes wrong -/
theorem num_drop {w : List Nat} (h : ∀ a ∈ w, a < 4) : ∀ m, m ≤ w.length → num (w.drop (w.length - m)) = num w % 4 ^ m + 4 ^ m := by
  intro m hm
  have key : ∀ (u v : List Nat), (∀ a ∈ u, a < 4) → (∀ a ∈ v, a < 4) → num v = num (u ++ v) % 4 ^ v.length + 4 ^ v.length := by
    intro u v hu hv
    have e : ∀ (v : List Nat) (n : Nat), v.foldl (fun n a => 4 * n + a) n = n * 4 ^ v.length + v.foldl (fun n a => 4 * n + a) 0 := by
      intro v
      induction v with
      | nil => intro n; simp
      | cons a v ih =>
        intro n
        simp only [List.foldl_cons, List.length_cons]
        rw [ih (4 * n + a), ih (4 * 0 + a), Nat.pow_succ, Nat.add_mul, Nat.mul_comm (4 ^ v.length) 4, ← Nat.mul_assoc, Nat.mul_comm 4 n]
        have h0 : 4 * 0 + a = a := by omega
        rw [h0]
        omega
    have hlt : v.foldl (fun n a => 4 * n + a) 0 < 4 ^ v.length := by
      have := (num_b v 0 hv).2
      simpa using this
    have e1 : num v = 4 ^ v.length + v.foldl (fun n a => 4 * n + a) 0 := by
      unfold num
      rw [e v 1, Nat.one_mul]
    have e2 : num (u ++ v) = num u * 4 ^ v.length + v.foldl (fun n a => 4 * n + a) 0 := by
      unfold num
      rw [List.foldl_append, e v]
    rw [e2, Nat.mul_comm, Nat.mul_add_mod, Nat.mod_eq_of_lt hlt, e1]
    omega
  have := key (w.take (w.length - m)) (w.drop (w.length - m)) (fun a ha => h a (List.mem_of_mem_take ha)) (fun a ha => h a (List.mem_of_mem_drop ha))
  rw [List.take_append_drop] at this
  rw [this, List.length_drop, show w.length - (w.length - m) = m by omega]
theorem s_last {w : List Nat} {m : Nat} {I : MI} {J : MJ} {Q : Int64 → MI → MJ → Prop} (hw : wOk w) (hm : m ≤ w.length) : f_Words_lastSigns (lN (num w)) (nI m) I J Q ↔ Q (lN (num (w.drop (w.length - m)))) I J := by
  unfold f_Words_lastSigns
  have h30 := hw.1
  have h61 := num_60 hw
  have hp : 4 ^ m ≤ 4 ^ 30 := Nat.pow_le_pow_right (by decide) (by omega)
  have hp1 : 1 ≤ 4 ^ m := Nat.one_le_pow _ _ (by decide)
  have h4 : (4 : Nat) ^ 30 = 2 ^ 60 := by decide
  rw [forall_eq, l2, pk_mul, show (1 : Int64) = lN 1 from rfl, wb_shl 1 (by omega), p4, Nat.one_mul, lN_sub (by omega), ← p4 m, wb_mask (by omega) (by omega), lN_add, p4, ← num_drop hw.2 m hm]
theorem wOk_drop {w : List Nat} (h : wOk w) (i : Nat) : wOk (w.drop i) := ⟨by rw [List.length_drop]; have := h.1; omega, fun a ha => h.2 a (List.mem_of_mem_drop ha)⟩
theorem wOk_take {w : List Nat} (h : wOk w) (i : Nat) : wOk (w.take i) := ⟨by rw [List.length_take]; have := h.1; omega, fun a ha => h.2 a (List.mem_of_mem_take ha)⟩
/-- V of the document -/
def vV (S G : AM) (ah : List (List Nat)) (w : List Nat) (i : Nat) : Nat := match run G (0, 0) (w.take i) with
  | none => 8
  | some q => ansF S (0, 0) (ah.getD q.1 [] ++ w.drop i)
def bsr (V : Nat → Nat) (v0 : Nat) : Nat → Nat → Nat → Nat
  | 0, _, hi => hi
  | f + 1, lo, hi => if hi ≤ lo + 1 then hi else if V ((lo + hi) / 2) = v0 then bsr V v0 f ((lo + hi) / 2) hi else bsr V v0 f lo ((lo + hi) / 2)
theorem bsr_e {V : Nat → Nat} {v0 f lo hi : Nat} (h : hi ≤ lo + 1) : bsr V v0 f lo hi = hi := by
  cases f with
  | zero => rfl
  | succ f => unfold bsr; rw [if_pos h]
theorem bsr_p {V : Nat → Nat} {v0 f lo hi : Nat} (h : ¬ hi ≤ lo + 1) (hv : V ((lo + hi) / 2) = v0) : bsr V v0 (f + 1) lo hi = bsr V v0 f ((lo + hi) / 2) hi := by
  conv => lhs; unfold bsr
  rw [if_neg h, if_pos hv]
theorem bsr_n {V : Nat → Nat} {v0 f lo hi : Nat} (h : ¬ hi ≤ lo + 1) (hv : ¬ V ((lo + hi) / 2) = v0) : bsr V v0 (f + 1) lo hi = bsr V v0 f lo ((lo + hi) / 2) := by
  conv => lhs; unfold bsr
  rw [if_neg h, if_neg hv]
theorem bsr_s {V : Nat → Nat} {v0 : Nat} : ∀ (f lo hi : Nat), lo < hi → hi - lo ≤ f → V lo = v0 → V hi ≠ v0 → lo < bsr V v0 f lo hi ∧ bsr V v0 f lo hi ≤ hi ∧ V (bsr V v0 f lo hi - 1) = v0 ∧ V (bsr V v0 f lo hi) ≠ v0
  | 0, lo, hi, h1, h2, _, _ => by omega
  | f + 1, lo, hi, h1, h2, h3, h4 => by
    by_cases h : hi ≤ lo + 1
    · rw [bsr_e h]
      have e : hi - 1 = lo := by omega
      rw [e]
      exact ⟨h1, Nat.le_refl _, h3, h4⟩
    · by_cases hv : V ((lo + hi) / 2) = v0
      · rw [bsr_p h hv]
        obtain ⟨k1, k2, k3, k4⟩ := bsr_s f ((lo + hi) / 2) hi (by omega) (by omega) hv h4
        exact ⟨by omega, k2, k3, k4⟩
      · rw [bsr_n h hv]
        obtain ⟨k1, k2, k3, k4⟩ := bsr_s f lo ((lo + hi) / 2) (by omega) (by omega) h3 hv
        exact ⟨k1, by omega, k3, k4⟩
/-- a take of the guess -/
theorem mkG_row {S : AM} {ah bh : List (List Nat)} {i : Nat} {w : List Nat} (hw : ah[i]? = some w) : (mkG S ah bh).2.2[i]? = some (some ((List.range S.2.1).map (fun a => (gT S ah bh w a, 0))), ansF S (0, 0) w) := by
  show (gSt S ah bh)[i]? = _
  unfold gSt
  rw [List.getElem?_map, hw]
  rfl
theorem mkG_ld {S : AM} {ah bh : List (List Nat)} {i a : Nat} {w : List Nat} (hw : ah[i]? = some w) : ld (mkG S ah bh) i a = if a < S.2.1 then gT S ah bh w a else none := by
  unfold ld
  rw [tkO_of (mkG_row hw) rfl]
  by_cases h : a < S.2.1
  · rw [if_pos h]
    simp [List.getElem?_map, List.getElem?_range h]
  · rw [if_neg h, List.getElem?_eq_none (by simp; omega)]
    rfl
theorem mkG_an {S : AM} {ah bh : List (List Nat)} {i : Nat} {w : List Nat} (hw : ah[i]? = some w) : anS (mkG S ah bh) i = ansF S (0, 0) w := anS_of (mkG_row hw)
theorem run_take {A : AM} {w : List Nat} {r : Nat} (hr : r < w.length) : run A (0, 0) (w.take (r + 1)) = (run A (0, 0) (w.take r)).bind (fun q => dl A q w[r]) := by
  rw [take_s hr, run_app]
  cases run A (0, 0) (w.take r) with
  | none => rfl
  | some q =>
    show run A q [w[r]] = dl A q w[r]
    rw [run_cons]
    cases dl A q w[r] <;> rfl
theorem VQ.more {S : AM} {ah bh : List (List Nat)} {v : List Nat} (h : VQ S ah bh) (hv : wOk v) : VQ S ah (bh ++ [v]) := by
  obtain ⟨h1, h2, h3, h4, h5, h6, h7⟩ := h
  refine ⟨h1, h2, pre_get h3, h4, fun u hu => ?_, h6, fun i j u w hu hw e => h7 i j u w hu hw (rowOf_eq.mpr (fun y hy => rowOf_eq.mp e y (List.mem_append_left _ hy)))⟩
  rcases List.mem_append.mp hu with hu | hu
  · exact h5 u hu
  · simp at hu; rw [hu]; exact hv
theorem vV_0 {P : PU} (h : VP P) (w : List Nat) : vV P.1 (mkG P.1 P.2.2.1 P.2.2.2.1) P.2.2.1 w 0 = ansF P.1 (0, 0) w := by
  have h3 := h.2.2.1
  unfold vV
  rw [List.take_zero, run_nil]
  simp only [List.getD, h3, Option.getD_some, List.drop_zero, List.nil_append]
theorem vV_m {P : PU} (h : VP P) (w : List Nat) : vV P.1 (mkG P.1 P.2.2.1 P.2.2.2.1) P.2.2.1 w w.length = ansF (mkG P.1 P.2.2.1 P.2.2.2.1) (0, 0) w := by
  have hg := h.g
  unfold vV
  rw [List.take_length, List.drop_length]
  unfold ansF
  cases hr : run (mkG P.1 P.2.2.1 P.2.2.2.1) (0, 0) w with
  | none => rfl
  | some q =>
    have hq := (run_ok hg.1.1 w (0, 0) q hg.1.1.n1 (by decide) hr).1
    rw [hg.2] at hq
    have hy := List.getElem?_eq_getElem hq
    simp only [List.getD, hy, Option.getD_some, List.append_nil]
    rw [mkG_an hy]
    rfl
/-- the word that is learnt makes a word of AHEAD more -/
theorem rs_bad {P : PU} (h : VP P) {w : List Nat} {r : Nat} (hr : r < w.length) (h1 : vV P.1 (mkG P.1 P.2.2.1 P.2.2.2.1) P.2.2.1 w r ≠ vV P.1 (mkG P.1 P.2.2.1 P.2.2.2.1) P.2.2.1 w (r + 1)) : ∃ i a, badA P.1 P.2.2.1 (P.2.2.2.1 ++ [w.drop (r + 1)]) i a := by
  have hg := h.g
  obtain ⟨hq, hnb⟩ := h.q
  obtain ⟨hS, h2, h3, h4, h5, h6, h7⟩ := id hq
  generalize hGe : mkG P.1 P.2.2.1 P.2.2.2.1 = G at *
  have hrt := run_take (A := G) hr
  have hd : w.drop r = w[r] :: w.drop (r + 1) := List.drop_eq_getElem_cons hr
  generalize w[r] = a at *
  unfold vV at h1
  cases hru : run G (0, 0) (w.take r) with
  | none =>
    rw [hru] at hrt h1
    rw [show run G (0, 0) (w.take (r + 1)) = none from hrt] at h1
    exact absurd rfl h1
  | some q =>
    have hqk := okS_run hg.1.1 _ (0, 0) q (okS_0 hg.1.1) hru
    have hq0 := hqk.2.2 hg.1.n3
    have hq1 : q.1 < P.2.2.1.length := by rw [← hg.2]; exact hqk.1
    obtain ⟨i, c⟩ := q
    simp only at hq0 hq1
    subst hq0
    have hu := List.getElem?_eq_getElem hq1
    generalize P.2.2.1[i] = u at hu
    have hur := (h4 u (List.mem_of_getElem? hu)).2
    rw [hru] at hrt h1
    have hrt' : run G (0, 0) (w.take (r + 1)) = dl G (i, 0) a := hrt
    rw [dl_ld hg.1.1 hg.1.n3, ← hGe, mkG_ld hu, hGe] at hrt'
    simp only [List.getD, hu, Option.getD_some] at h1
    rw [hd, show u ++ a :: w.drop (r + 1) = (u ++ [a]) ++ w.drop (r + 1) by simp] at h1
    by_cases hak : a < P.1.2.1
    · rw [if_pos hak] at hrt'
      unfold gT at hrt'
      by_cases hsm : (run P.1 (0, 0) (u ++ [a])).isSome
      · rw [if_pos hsm] at hrt'
        cases hla : likeA P.1 P.2.2.1 P.2.2.2.1 (u ++ [a]) with
        | none => exact absurd ⟨u, hu, hak, hsm, hla⟩ (hnb i a)
        | some j =>
          rw [hla] at hrt'
          obtain ⟨y, y1, y2, y3⟩ := likeA_s hla
          rw [show run G (0, 0) (w.take (r + 1)) = some (j, 0) from hrt'] at h1
          simp only [List.getD, y1, Option.getD_some] at h1
          refine ⟨i, a, u, hu, hak, hsm, likeA_n.mpr (fun x hx e => ?_)⟩
          obtain ⟨l, hl⟩ := List.mem_iff_getElem?.mp hx
          have e1 : rowOf P.1 P.2.2.2.1 x = rowOf P.1 P.2.2.2.1 (u ++ [a]) := rowOf_eq.mpr (fun v hv => rowOf_eq.mp e v (List.mem_append_left _ hv))
          have hlj := h7 l j x y hl y1 (e1.trans y2.symm)
          subst hlj
          rw [hl] at y1
          cases y1
          exact h1 (rowOf_eq.mp e (w.drop (r + 1)) (by simp)).symm
      · rw [if_neg hsm] at hrt'
        have hn : run P.1 (0, 0) (u ++ [a]) = none := by
          cases hx : run P.1 (0, 0) (u ++ [a]) with
          | none => rfl
          | some z => rw [hx] at hsm; exact absurd rfl hsm
        rw [show run G (0, 0) (w.take (r + 1)) = none from hrt', ans_none hn] at h1
        exact absurd rfl h1
    · rw [if_neg hak] at hrt'
      have hn : run P.1 (0, 0) (u ++ [a]) = none := by
        rw [run_snoc hS hur]
        cases hl : ld P.1 (endS P.1 u) a with
        | none => rfl
        | some t => exact absurd (ld_lt hS.1 hl).2.2 hak
      rw [show run G (0, 0) (w.take (r + 1)) = none from hrt', ans_none hn] at h1
      exact absurd rfl h1
theorem ClR_len {S : AM} {bh : List (List Nat)} : ∀ (n : Nat) (ah x : List (List Nat)), ClR S bh n ah x → x.length = ah.length + n
  | 0, ah, x, h => by rw [h.1]; rfl
  | n + 1, ah, x, h => by
    obtain ⟨i, a, w, _, _, hr⟩ := h
    have := ClR_len n _ x hr
    simp at this
    omega
theorem ClE_more {S : AM} {bh ah x : List (List Nat)} (h : ClE S bh ah x) {i a : Nat} (hb : badA S ah bh i a) : ah.length + 1 ≤ x.length := by
  obtain ⟨n, hn⟩ := h
  cases n with
  | zero => exact absurd hb (hn.2 i a)
  | succ n =>
    have := ClR_len _ _ _ hn
    omega
/-! where the search ends -/
noncomputable section
def cutW (P : PU) (w : List Nat) : Nat := bsr (vV P.1 (mkG P.1 P.2.2.1 P.2.2.2.1) P.2.2.1 w) (vV P.1 (mkG P.1 P.2.2.1 P.2.2.2.1) P.2.2.1 w 0) 30 0 w.length
def bhW (P : PU) (w : List Nat) : List (List Nat) := P.2.2.2.1 ++ [w.drop (cutW P w)]
def lrn (P : PU) (w : List Nat) : PU := (P.1, P.2.1, clo P.1 (bhW P w) P.2.2.1, bhW P w, lN (num w))
end
theorem cut_bad {P : PU} (h : VP P) {w : List Nat} (hw : wOk w) (hne : ansF P.1 (0, 0) w ≠ ansF (mkG P.1 P.2.2.1 P.2.2.2.1) (0, 0) w) : (∃ i a, badA P.1 P.2.2.1 (bhW P w) i a) ∧ cutW P w ≤ w.length := by
  have v0 := vV_0 h w
  have vm := vV_m h w
  have h30 := hw.1
  have hw0 : 0 < w.length := by
    cases hl : w.length with
    | succ n => omega
    | zero =>
      exfalso
      rw [hl] at vm
      rw [← v0, ← vm] at hne
      exact hne rfl
  obtain ⟨k1, k2, k3, k4⟩ := bsr_s (V := vV P.1 (mkG P.1 P.2.2.1 P.2.2.2.1) P.2.2.1 w) (v0 := vV P.1 (mkG P.1 P.2.2.1 P.2.2.2.1) P.2.2.1 w 0) 30 0 w.length hw0 (by omega) rfl (by rw [v0, vm]; exact fun e => hne e.symm)
  have k1' : 0 < cutW P w := k1
  have k2' : cutW P w ≤ w.length := k2
  refine ⟨?_, k2'⟩
  have hc : cutW P w = (cutW P w - 1) + 1 := by omega
  have := rs_bad h (w := w) (r := cutW P w - 1) (by omega) (by rw [← hc]; exact fun e => k4 (e.symm.trans k3))
  rw [← hc] at this
  exact this
theorem lrn_ok {P : PU} (h : VP P) {w : List Nat} (hw : wOk w) (hne : ansF P.1 (0, 0) w ≠ ansF (mkG P.1 P.2.2.1 P.2.2.2.1) (0, 0) w) : VQ P.1 P.2.2.1 (bhW P w) ∧ P.2.2.2.1.length < 14 ∧ ∀ x, ClE P.1 (bhW P w) P.2.2.1 x → (bhW P w).length ≤ x.length := by
  obtain ⟨⟨i, a, hb⟩, hcut⟩ := cut_bad h hw hne
  have hq := h.q.1.more (wOk_drop hw (cutW P w))
  have h6 := h.2.2.2.2.2.1
  refine ⟨hq, ?_, fun x hx => ?_⟩
  · obtain ⟨w', k1, _⟩ := id hb
    have hadd := hq.add hb k1
    have := hadd.len
    have := h.1.1.2.2.2.2.1
    simp only [List.length_append, List.length_cons, List.length_nil] at *
    omega
  · have := ClE_more hx hb
    show (P.2.2.2.1 ++ [w.drop (cutW P w)]).length ≤ _
    rw [List.length_append]
    simp only [List.length_cons, List.length_nil]
    omega
