/-! LEAST machines: access words -/
theorem gMk_run {n K : Nat} {to : Nat → Nat → Option Nat} {an : Nat → Nat} {k : Nat} (h7 : ∀ i, i < n → an i ≤ 7) (hc : ∀ i a j, i < n → a < K → to i a = some j → j < n) (hno : ∀ i a, i < n → k ≤ a → to i a = none) (hk : k ≤ K) : ∀ (w : List Nat) (i c : Nat), i < n → run (gMk n to an (eqN to an K) k) (cls (eqN to an K) i, c) w = (runK to i w).map (fun j => (cls (eqN to an K) j, c))
  | [], i, c, hi => rfl
  | a :: w, i, c, hi => by
    have hE := eqN_e to an K
    have hrn : rp (eqN to an K) i < n := by have := (rp_spec hE i).2.2; omega
    have hr := rpL_of (n := n) hrn (rp_isRp hE i)
    have htk := gMk_tk (to := to) (an := an) (k := k) (a := a) hr
    rw [run_cons]
    show _ = ((to i a).bind (fun j => runK to j w)).map _
    by_cases ha : a < k
    · rw [if_pos ha] at htk
      rw [show (cls (eqN to an K) i, c) = (cr (eqN to an K) (rp (eqN to an K) i), c) from rfl, dl_0 htk rfl]
      have em := eq_map h7 hc hrn hi (show a < K by omega) (rp_spec hE i).1
      cases hto : to i a with
      | none =>
        rw [hto] at em
        cases hto2 : to (rp (eqN to an K) i) a with
        | none => rfl
        | some z => rw [hto2] at em; cases em
      | some j =>
        rw [hto] at em
        rw [em]
        show run _ (cls (eqN to an K) j, c) w = (runK to j w).map _
        exact gMk_run h7 hc hno hk w j c (hc i a j hi (by omega) hto)
    · rw [if_neg ha] at htk
      rw [show (cls (eqN to an K) i, c) = (cr (eqN to an K) (rp (eqN to an K) i), c) from rfl, dl_no htk, hno i a hi (by omega)]
      rfl
theorem toA_run {A : AM} (hv : VA A) (hg : ¬ grt A) : ∀ (w : List Nat) (i x : Nat), (ndM A)[i]? = some x → (runK (toL (nxM A) (ndM A)) i w = none ∧ runK (nxM A) x w = none) ∨ ∃ j y, runK (toL (nxM A) (ndM A)) i w = some j ∧ runK (nxM A) x w = some y ∧ (ndM A)[j]? = some y
  | [], i, x, hx => Or.inr ⟨i, x, rfl, rfl, hx⟩
  | a :: w, i, x, hx => by
    show ((toL (nxM A) (ndM A) i a).bind (fun j => runK (toL (nxM A) (ndM A)) j w) = none ∧ (nxM A x a).bind (fun j => runK (nxM A) j w) = none) ∨ ∃ j y, (toL (nxM A) (ndM A) i a).bind (fun j => runK (toL (nxM A) (ndM A)) j w) = some j ∧ (nxM A x a).bind (fun j => runK (nxM A) j w) = some y ∧ (ndM A)[j]? = some y
    cases hn : nxM A x a with
    | none =>
      rw [toL_none hx hn]
      exact Or.inl ⟨rfl, rfl⟩
    | some y =>
      have ha : a < A.2.1 := by
        by_cases hh : a < A.2.1
        · exact hh
        · rw [nxM_K hv x a (by omega)] at hn; cases hn
      have hl : (bfB (nxM A) A.2.1 0 14).length ≤ 14 := by unfold grt ndM at hg; omega
      have hmem := bfB_closed hl (show x ∈ bfB (nxM A) A.2.1 0 14 from List.mem_of_getElem? hx) ha hn
      obtain ⟨j, hj⟩ := List.mem_iff_getElem?.mp hmem
      have hj' : (ndM A)[j]? = some y := hj
      have hnd : (ndM A).Nodup := bfB_nd _ _ _ _
      rw [toL_some hnd hx hn hj']
      exact toA_run hv hg w j y hj'
def isAc (L : AM) (s : Nat) (w : List Nat) : Prop := (∀ a ∈ w, a < 4) ∧ run L (0, 0) w = some (s, 0) ∧ ∀ v : List Nat, (∀ a ∈ v, a < 4) → run L (0, 0) v = some (s, 0) → num w ≤ num v
theorem isAc_u {L : AM} {s : Nat} {w v : List Nat} (h : isAc L s w) (h' : isAc L s v) : w = v := by
  have a := h.2.2 v h'.1 h'.2.1
  have b := h'.2.2 w h.1 h.2.1
  exact num_inj h.1 h'.1 (by omega)
def GoodL (L : AM) : Prop := VL L ∧ (∀ s, s < aN L → ∃ w, isAc L s w) ∧ (∀ (s t : Nat) (w v : List Nat), s < t → isAc L s w → isAc L t v → num w < num v) ∧ ∀ s t, s < t → t < aN L → ∃ w : List Nat, (∀ a ∈ w, a < 4) ∧ ansF L (s, 0) w ≠ ansF L (t, 0) w
theorem least_facts {A : AM} (hv : VA A) : (∀ i, i < (ndM A).length → anL (anM A) (ndM A) i ≤ 7) ∧ (∀ i a, i < (ndM A).length → ksN (ndM A).length A.2.1 (toL (nxM A) (ndM A)) ≤ a → toL (nxM A) (ndM A) i a = none) := by
  have hs := ksN_s (ndM A).length A.2.1 (toL (nxM A) (ndM A))
  refine ⟨fun i hi => ?_, fun i a hi ha => ?_⟩
  · rw [anL_of (List.getElem?_eq_getElem hi)]
    exact anM_7 hv (List.getElem_mem _)
  · by_cases haK : a < A.2.1
    · cases ht : toL (nxM A) (ndM A) i a with
      | none => rfl
      | some j =>
        have := hs.2.1 i a hi haK (by rw [ht]; simp)
        omega
    · exact toA_K hv (by omega)
theorem least_run {A : AM} (hv : VA A) (w : List Nat) : run (leastA A) (0, 0) w = (runK (toL (nxM A) (ndM A)) 0 w).map (fun j => (cls (eqN (toL (nxM A) (ndM A)) (anL (anM A) (ndM A)) A.2.1) j, 0)) := by
  have hs := ksN_s (ndM A).length A.2.1 (toL (nxM A) (ndM A))
  obtain ⟨f1, f2⟩ := least_facts hv
  have := gMk_run (n := (ndM A).length) (K := A.2.1) (to := toL (nxM A) (ndM A)) (an := anL (anM A) (ndM A)) (k := ksN (ndM A).length A.2.1 (toL (nxM A) (ndM A))) f1 (fun i a j _ _ h => toL_lt h) f2 (isKs_4 hs hv.2.1) w 0 0 (ndM_1 A)
  rw [cls_0 (eqN_e _ _ _)] at this
  exact this
theorem least_ac {A : AM} (hv : VA A) (hg : ¬ grt A) {u r : Nat} {x : KW} (hr : (rpL (eqN (toL (nxM A) (ndM A)) (anL (anM A) (ndM A)) A.2.1) (ndM A).length)[u]? = some r) (hx : (bfW (nxM A) A.2.1 0 14)[r]? = some x) : isAc (leastA A) u x.2 := by
  have hE := eqN_e (toL (nxM A) (ndM A)) (anL (anM A) (ndM A)) A.2.1
  have hK := hv.2.2.1
  have hl : (bfB (nxM A) A.2.1 0 14).length ≤ 14 := by unfold grt ndM at hg; omega
  obtain ⟨i1, i2, i3, i4⟩ := bfW_inv (nx := nxM A) (k0 := 0) hK 14
  obtain ⟨r1, r2, r3⟩ := rpL_get hr
  obtain ⟨x1, x2⟩ := i3 x (List.mem_of_getElem? hx)
  have h0 : (ndM A)[0]? = some 0 := bfB_k0 _ _ _ _
  have hxr : (ndM A)[r]? = some x.1 := by
    show (bfB (nxM A) A.2.1 0 14)[r]? = some x.1
    rw [← bfW_k, List.getElem?_map, hx]; rfl
  have nd : ∀ (j y : Nat), (ndM A)[j]? = some y → (ndM A)[r]? = some y → j = r := fun j y hj hj' => by
    have e1 := ixL_of (bfB_nd (nxM A) A.2.1 0 14) hj
    have e2 := ixL_of (bfB_nd (nxM A) A.2.1 0 14) hj'
    have e1' : ixL (ndM A) y = some j := e1
    have e2' : ixL (ndM A) y = some r := e2
    rw [e1'] at e2'
    exact Option.some.inj e2'
  refine ⟨fun a ha => by have := x2 a ha; omega, ?_, fun v v1 v2 => ?_⟩
  · rw [least_run hv]
    rcases toA_run hv hg x.2 0 0 h0 with ⟨k1, k2⟩ | ⟨j, y, k1, k2, k3⟩
    · rw [k2] at x1; cases x1
    · rw [k2] at x1
      cases x1
      rw [nd j _ k3 hxr] at k1
      rw [k1]
      show some (cls _ r, 0) = some (u, 0)
      rw [cls_rep hE r2, r3]
  · rw [least_run hv] at v2
    rcases toA_run hv hg v 0 0 h0 with ⟨k1, k2⟩ | ⟨j, y, k1, k2, k3⟩
    · rw [k1] at v2; cases v2
    · rw [k1] at v2
      have hcl : cls (eqN (toL (nxM A) (ndM A)) (anL (anM A) (ndM A)) A.2.1) j = u := by
        have := Option.some.inj v2
        exact congrArg Prod.fst this
      have hvK : ∀ a ∈ v, a < A.2.1 := fun a ha => by
        by_cases hh : a < A.2.1
        · exact hh
        · exfalso
          -- a sign that leads nowhere
          have key : ∀ (v : List Nat) (z : Nat), a ∈ v → runK (nxM A) z v = none := by
            intro v
            induction v with
            | nil => intro z hz; cases hz
            | cons b v ih =>
              intro z hz
              show (nxM A z b).bind (fun j => runK (nxM A) j v) = none
              rcases List.mem_cons.mp hz with e | e
              · rw [← e, nxM_K hv z a (by omega)]; rfl
              · cases nxM A z b with
                | none => rfl
                | some z' => exact ih z' e
          rw [key v 0 ha] at k2
          cases k2
      obtain ⟨w', m1, m2⟩ := bfW_all hK hl v.length v y rfl hvK k2
      obtain ⟨p, hp⟩ := List.mem_iff_getElem?.mp m1
      have hpj : p = j := by
        have hpy : (ndM A)[p]? = some y := by
          show (bfB (nxM A) A.2.1 0 14)[p]? = some y
          rw [← bfW_k, List.getElem?_map, hp]; rfl
        have e1 : ixL (ndM A) y = some p := ixL_of (bfB_nd (nxM A) A.2.1 0 14) hpy
        have e2 : ixL (ndM A) y = some j := ixL_of (bfB_nd (nxM A) A.2.1 0 14) k3
        rw [e1] at e2
        exact Option.some.inj e2
      have hrj : r ≤ j := by
        have e : cls (eqN (toL (nxM A) (ndM A)) (anL (anM A) (ndM A)) A.2.1) r = cls (eqN (toL (nxM A) (ndM A)) (anL (anM A) (ndM A)) A.2.1) j := by rw [cls_rep hE r2, r3, hcl]
        have e2 := rp_eq hE ((cls_eq hE).mp e)
        rw [rp_rep hE r2] at e2
        have := (rp_spec hE j).2.2
        omega
      by_cases e : r = j
      · subst e
        subst hpj
        rw [hx] at hp
        cases hp
        exact m2
      · have hlt := i1 r p x (y, w') (by omega) hx hp
        have : num x.2 < num w' := hlt
        omega
theorem least_good {A : AM} (hv : VA A) (hg : ¬ grt A) : GoodL (leastA A) := by
  have hE := eqN_e (toL (nxM A) (ndM A)) (anL (anM A) (ndM A)) A.2.1
  have hs := ksN_s (ndM A).length A.2.1 (toL (nxM A) (ndM A))
  obtain ⟨f1, f2⟩ := least_facts hv
  have hn : aN (leastA A) = cr (eqN (toL (nxM A) (ndM A)) (anL (anM A) (ndM A)) A.2.1) (ndM A).length := qsG_len
  have hbl : (bfW (nxM A) A.2.1 0 14).length = (ndM A).length := bfW_l _ _ _ _
  obtain ⟨i1, i2, i3, i4⟩ := bfW_inv (nx := nxM A) (k0 := 0) hv.2.2.1 14
  have pick : ∀ u, u < aN (leastA A) → ∃ r x, (rpL (eqN (toL (nxM A) (ndM A)) (anL (anM A) (ndM A)) A.2.1) (ndM A).length)[u]? = some r ∧ (bfW (nxM A) A.2.1 0 14)[r]? = some x := fun u hu => by
    rw [hn] at hu
    have hr := List.getElem?_eq_getElem (show u < (rpL (eqN (toL (nxM A) (ndM A)) (anL (anM A) (ndM A)) A.2.1) (ndM A).length).length from hu)
    have hrn := (rpL_get hr).1
    exact ⟨_, _, hr, List.getElem?_eq_getElem (by rw [hbl]; exact hrn)⟩
  have isU : ∀ {u : Nat} {w : List Nat}, isAc (leastA A) u w → u < aN (leastA A) := fun {u w} h => (run_ok (leastA_VL hv hg).1 w (0, 0) (u, 0) (leastA_VL hv hg).1.n1 (by decide) h.2.1).1
  refine ⟨leastA_VL hv hg, fun s hs' => ?_, fun s t w v hst hw hv' => ?_, fun s t hst ht => ?_⟩
  · obtain ⟨r, x, hr, hx⟩ := pick s hs'
    exact ⟨x.2, least_ac hv hg hr hx⟩
  · obtain ⟨r, x, hr, hx⟩ := pick s (isU hw)
    obtain ⟨r', x', hr', hx'⟩ := pick t (isU hv')
    rw [isAc_u hw (least_ac hv hg hr hx), isAc_u hv' (least_ac hv hg hr' hx')]
    obtain ⟨a1, a2, a3⟩ := rpL_get hr
    obtain ⟨b1, b2, b3⟩ := rpL_get hr'
    have hrr : r < r' := by
      by_cases hh : r < r'
      · exact hh
      · have := cr_mono (eqN (toL (nxM A) (ndM A)) (anL (anM A) (ndM A)) A.2.1) (show r' ≤ r by omega)
        omega
    exact i1 r r' x x' hrr hx hx'
  · obtain ⟨r, x, hr, hx⟩ := pick s (by omega)
    obtain ⟨r', x', hr', hx'⟩ := pick t ht
    obtain ⟨a1, a2, a3⟩ := rpL_get hr
    obtain ⟨b1, b2, b3⟩ := rpL_get hr'
    have e1 : cls (eqN (toL (nxM A) (ndM A)) (anL (anM A) (ndM A)) A.2.1) r = s := by rw [cls_rep hE a2, a3]
    have e2 : cls (eqN (toL (nxM A) (ndM A)) (anL (anM A) (ndM A)) A.2.1) r' = t := by rw [cls_rep hE b2, b3]
    have hne : ¬ eqN (toL (nxM A) (ndM A)) (anL (anM A) (ndM A)) A.2.1 r r' := fun hh => by
      have := (cls_eq hE).mpr hh
      omega
    by_cases hx2 : ∃ w : List Nat, (∀ a ∈ w, a < A.2.1) ∧ ansN (toL (nxM A) (ndM A)) (anL (anM A) (ndM A)) r w ≠ ansN (toL (nxM A) (ndM A)) (anL (anM A) (ndM A)) r' w
    · obtain ⟨w, w1, w2⟩ := hx2
      have k1 := gMk_ans (n := (ndM A).length) (K := A.2.1) (k := ksN (ndM A).length A.2.1 (toL (nxM A) (ndM A))) f1 (fun i a j _ _ h => toL_lt h) f2 (isKs_4 hs hv.2.1) w r 0 a1
      have k2 := gMk_ans (n := (ndM A).length) (K := A.2.1) (k := ksN (ndM A).length A.2.1 (toL (nxM A) (ndM A))) f1 (fun i a j _ _ h => toL_lt h) f2 (isKs_4 hs hv.2.1) w r' 0 b1
      rw [e1] at k1
      rw [e2] at k2
      refine ⟨w, fun a ha => by have := w1 a ha; have := hv.2.2.1; omega, ?_⟩
      have k1' : ansF (leastA A) (s, 0) w = _ := k1
      have k2' : ansF (leastA A) (t, 0) w = _ := k2
      rw [k1', k2']
      exact w2
    · exfalso
      refine hne (fun w hw => ?_)
      by_cases e : ansN (toL (nxM A) (ndM A)) (anL (anM A) (ndM A)) r w = ansN (toL (nxM A) (ndM A)) (anL (anM A) (ndM A)) r' w
      · exact e
      · exact absurd ⟨w, hw, e⟩ hx2
/-! access words by their parents -/
noncomputable section
def ac (L : AM) (s : Nat) : List Nat := by classical exact if h : ∃ w, isAc L s w then Classical.choose h else []
end
theorem ac_is {L : AM} (h : GoodL L) {s : Nat} (hs : s < aN L) : isAc L s (ac L s) := by
  have hex := h.2.1 s hs
  unfold ac
  rw [dif_pos hex]
  exact Classical.choose_spec hex
theorem ac_eq {L : AM} (h : GoodL L) {s : Nat} (hs : s < aN L) {w : List Nat} (hw : isAc L s w) : w = ac L s := isAc_u hw (ac_is h hs)
theorem ac_0 {L : AM} (h : GoodL L) : ac L 0 = [] := by
  refine (ac_eq h h.1.1.n1 ⟨(fun a ha => by cases ha), rfl, fun v hv _ => ?_⟩).symm
  have := num_lo hv
  have h1 : 1 ≤ 4 ^ v.length := Nat.one_le_pow _ _ (by decide)
  show 1 ≤ num v
  omega
theorem ac_lt {L : AM} (h : GoodL L) {s t : Nat} (hst : s < t) (ht : t < aN L) : num (ac L s) < num (ac L t) := h.2.2.1 s t _ _ hst (ac_is h (by omega)) (ac_is h ht)
/-- a word behind an access word comes no sooner -/
theorem ac_le {L : AM} (h : GoodL L) {s t a : Nat} (hs : s < aN L) (hl : ld L s a = some t) : num (ac L t) ≤ 4 * num (ac L s) + a := by
  obtain ⟨t1, t2, t3⟩ := ld_lt h.1.1 hl
  have hac := ac_is h hs
  have hk := h.1.1.2.2.1
  have hr : run L (0, 0) (ac L s ++ [a]) = some (t, 0) := by
    rw [run_app, hac.2.1]
    show run L (s, 0) [a] = some (t, 0)
    rw [run_cons, dl_ld h.1.1 h.1.n3, hl]
    rfl
  have := (ac_is h t1).2.2 (ac L s ++ [a]) (fun b hb => by
    rcases List.mem_append.mp hb with hb | hb
    · exact hac.1 b hb
    · simp at hb; omega) hr
  rw [num_app] at this
  exact this
theorem ac_parent {L : AM} (h : GoodL L) {t : Nat} (h1 : 1 ≤ t) (ht : t < aN L) : ∃ s a, s < t ∧ a < L.2.1 ∧ ld L s a = some t ∧ ac L t = ac L s ++ [a] := by
  have hac := ac_is h ht
  have hne : ac L t ≠ [] := fun e => by
    have h2 := hac.2.1
    rw [e] at h2
    have := congrArg (fun x => x.map Prod.fst) h2
    simp [run_nil] at this
    omega
  have hsp := (List.dropLast_concat_getLast hne).symm
  generalize (ac L t).dropLast = v at hsp
  generalize (ac L t).getLast hne = a at hsp
  have hrv := hac.2.1
  rw [hsp, run_app] at hrv
  cases hv : run L (0, 0) v with
  | none => rw [hv] at hrv; cases hrv
  | some z =>
    rw [hv] at hrv
    have hok := okS_run h.1.1 v (0, 0) z (okS_0 h.1.1) hv
    obtain ⟨s, c⟩ := z
    have hc : c = 0 := hok.2.2 h.1.n3
    subst hc
    have hs : s < aN L := hok.1
    have hrv' : run L (s, 0) [a] = some (t, 0) := hrv
    rw [run_cons, dl_ld h.1.1 h.1.n3] at hrv'
    have hld : ld L s a = some t := by
      cases hl : ld L s a with
      | none => rw [hl] at hrv'; cases hrv'
      | some y =>
        rw [hl] at hrv'
        have : some (y, 0) = some (t, 0) := hrv'
        have := congrArg (fun x => x.map Prod.fst) this
        simp at this
        rw [this]
    have hv4 : ∀ b ∈ v, b < 4 := fun b hb => hac.1 b (by rw [hsp]; exact List.mem_append_left _ hb)
    have hva : isAc L s v := ⟨hv4, hv, fun u hu hru => by
      have hle := hac.2.2 (u ++ [a]) (fun b hb => by
        rcases List.mem_append.mp hb with hb | hb
        · exact hu b hb
        · simp at hb; rw [hb]; exact hac.1 a (by rw [hsp]; simp)) (by rw [run_app, hru]; exact hrv)
      rw [hsp, num_app, num_app] at hle
      omega⟩
    have hve := ac_eq h hs hva
    refine ⟨s, a, ?_, (ld_lt h.1.1 hld).2.2, hld, by rw [hsp, hve]⟩
    by_cases hst : s < t
    · exact hst
    · exfalso
      have h2 : num (ac L t) ≤ num (ac L s) := by
        by_cases e : s = t
        · rw [e]; exact Nat.le_refl _
        · have := ac_lt h (show t < s by omega) hs; omega
      rw [hsp, num_app, ← hve] at h2
      have h3 := num_lo hv4
      have h4 : 1 ≤ 4 ^ v.length := Nat.one_le_pow _ _ (by decide)
      omega
theorem ac_len {L : AM} (h : GoodL L) : ∀ (t : Nat), t < aN L → (ac L t).length ≤ t := by
  intro t
  induction t using Nat.strongRecOn with
  | ind t ih =>
    intro ht
    by_cases h0 : t = 0
    · subst h0; rw [ac_0 h]; exact Nat.le_refl _
    · obtain ⟨s, a, hst, _, _, e⟩ := ac_parent h (by omega) ht
      have := ih s hst (by omega)
      rw [e, List.length_append]
      simp
      omega
