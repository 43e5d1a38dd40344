section WC2
variable {Γ : Cty} {cc : ByteArray} {nL d pc mC mS : Nat} {own : String} {L : List (Nat × Value)} {st : List Value} {n : Nat} {e : Nat → va_E} {cells slots : Nat}
theorem wc_get {C : String} {T : u_T} {N ci index o : Nat} {fs : List Value} {v : Value} (X : Xc Γ cc nL own d mC mS) (ho : o < n) (he : e o = .inr (ci, fs)) (hcl : vwCl[ci]? = some (C, T, N)) (hin : ∀ w ∈ u_ws C T N, w ∈ TT) (k0 : Nat) (hk : k0 < N) (hT : (T k0).1 = C) (hlink : Cond.fieldLink own index C (T k0).2.1 (T k0).2.2.1 ∈ TT) (hv : fs[k0]? = some v) (hd : decode cc pc = .ok (.getfield index, 3)) (k : Wc Γ nL (pc + 3) L (v :: st) n e cells slots) : Wc Γ nL pc L (.ref (bB Γ + o) :: st) n e cells slots := by
  obtain ⟨p, l, ev, R, s, m, args, below, meth, c, Q, g, B⟩ := Γ
  obtain ⟨hxe, hb, hml, hown, hts, hK, hNK, hB, hfr, hlo, hce, hsl, hg⟩ := X
  exact fun H locs ls hP hS hz hl => va_get hxe hb hts hin hown hK.1 hP o (fs := fs) (by rw [wl_at ho, he]) hcl k0 hk (hts _ hlink) (fun x h => by rw [hT] at h; exact h) hv hd (k H locs ls hP hS hz hl)
theorem wc_eqv {o : Nat} {cA : ClassId} {x x' : vp_A} (ho : o < n) (he : e o = .inl (cA, x)) (hx : vp_cell cA x = vp_cell cA x') (k : Wc Γ nL pc L st n (va_up e o (.inl (cA, x'))) cells slots) : Wc Γ nL pc L st n e cells slots := by
  obtain ⟨p, l, ev, R, s, m, args, below, meth, c, Q, g, B⟩ := Γ
  intro H locs ls hP hS hz hl
  refine k H locs ls (fun i q hq => ?_) hS hz hl
  obtain ⟨h1, rfl⟩ := wl_inv hq
  by_cases hi : i = o
  · subst hi
    rw [va_up_self]
    have h2 := hP i _ (wl_at h1)
    rw [he] at h2
    show H[B + i]? = some (vp_cell _ _)
    rw [← hx]
    exact h2
  · rw [va_up_ne _ _ hi]
    exact hP i _ (wl_at h1)
set_option maxHeartbeats 4000000 in
theorem wc_iast {o N : Nat} {f : Nat → Int32} {i x : Int32} (X : Xc Γ cc nL own d mC mS) (ho : o < n) (he : e o = .inl ((bG Γ).2.2.1, N, .inl f)) (hin : vp_in i N) (hd : decode cc pc = .ok (.iastore, 1)) (k : Wc Γ nL (pc + 1) L st n (va_up e o (.inl ((bG Γ).2.2.1, N, .inl (upd f i.toNatClampNeg x)))) cells slots) : Wc Γ nL pc L (.int x :: .int i :: .ref (bB Γ + o) :: st) n e cells slots := by
  obtain ⟨p, l, ev, R, s, m, args, below, meth, c, Q, g, B⟩ := Γ
  obtain ⟨hxe, hb, hml, hown, hts, hK, hNK, hB, hfr, hlo, hce, hsl, hg⟩ := X
  intro H locs ls hP hS hz hl
  have ha : (wl B n e)[o]? = some (B + o, .inl (g.2.2.1, N, .inl f)) := by rw [wl_at ho, he]
  refine W.iast hxe hb (hP o _ ha) ((hK.1.2 0 (g.2.2.1, .int) rfl).1 N (fun j => .int (f j))) (fun q => by cases q) (by show ¬ (i < 0 ∨ (arrV _ _ _).slots.size ≤ _); rw [arrV_size]; exact hin) rfl rfl hd fun H1 e1 z oq => ?_
  have hP1 := hP.set (e := .inl (g.2.2.1, N, .inl (upd f i.toNatClampNeg x))) (H1 := H1) wl_D ha (by
    show H1[B + o]? = some (vp_cell _ _)
    rw [e1, vp_cell_i, vp_cell_i, arrV_store]
    congr 2
    funext q
    by_cases hq : q = i.toNatClampNeg
    · subst hq
      simp [updV, upd]
    · simp [updV, upd, hq]) oq
  rw [wl_set ho] at hP1
  exact k H1 _ ls hP1 (hS.put z oq (by show B ≤ B + o; omega)) (by rw [z]; exact hz) hl
set_option maxHeartbeats 4000000 in
theorem wc_newq {index : Nat} {a : Int32} {N : Nat} (X : Xc Γ cc nL own d mC mS) (hd : decode cc pc = .ok (.anewarray index, 3)) (hcl : Cond.classLink own index RX4 ∈ TT) (hn : ¬ a < 0) (hN : a.toNatClampNeg = N) (hby : N * 4 ≤ 536870912) (hc1 : cells + 1 ≤ mC) (hc2 : slots + N ≤ mS)
    (k : Wc Γ nL (pc + 3) L (.ref (bB Γ + n) :: st) (n + 1) (va_up e n (.inl ((bG Γ).2.2.2.2.2, N, .inr (.inr (.inr (.inr (fun _ => none))))))) (cells + 1) (slots + N)) : Wc Γ nL pc L (.int a :: st) n e cells slots := by
  obtain ⟨p, l, ev, R, s, m, args, below, meth, c, Q, g, B⟩ := Γ
  obtain ⟨hxe, hb, hml, hown, hts, hK, hNK, hB, hfr, hlo, hce, hsl, hg⟩ := X
  subst hN
  intro H locs ls hP hS hz hl
  refine W.anew hxe hb hown (hts _ hcl) (va_AO.use hNK.2) rfl hd rfl hn hby (Nat.le_trans hc1 hce) (Nat.le_trans hc2 hsl) fun cA kA comp f1 f2 f3 f4 => ?_
  obtain ⟨kA', comp', g1, g2, g3, g4⟩ := (hK.1.2 3 (g.2.2.2.2.2, .object RX4) rfl).2
  have hcc : cA = g.2.2.2.2.2 := Option.some.inj (f1.symm.trans g4)
  subst hcc
  generalize hH1 : H.push ({ cls := g.2.2.2.2.2, slots := Array.replicate a.toNatClampNeg .null, vm := .none } : Cell) = H1
  have z1 : H1.size = H.size + 1 := by rw [← hH1, Array.size_push]
  have e1 : H1[H.size]? = some (arrV g.2.2.2.2.2 a.toNatClampNeg (fun _ => .null)) := by rw [← hH1, Array.getElem?_push_size, ← arrV_new]
  have o1 : ∀ q : Nat, q < H.size → H1[q]? = H[q]? := fun q hq => by rw [← hH1, Array.getElem?_push, if_neg (Nat.ne_of_lt hq)]
  have hk : ∀ (j : Nat) (q : Nat × va_E), (wl B n e)[j]? = some q → H1[q.1]? = H[q.1]? := fun j q hq => o1 q.1 ((hP j q hq).lt)
  have hP1 : va_P g.2.1 vwCl (wl B (n + 1) (va_up e n (.inl (g.2.2.2.2.2, a.toNatClampNeg, .inr (.inr (.inr (.inr (fun _ => none)))))))) H1 := by
    rw [← wl_push]
    refine (hP.kept hk).app (fun j q hq => ?_)
    have hz1 : j < 1 := (List.getElem?_eq_some_iff.mp hq).1
    rw [show j = 0 by omega] at hq
    cases hq
    show H1[B + n]? = some (vp_cell _ _)
    rw [vp_cell_q, ← hz]
    exact e1
  have hre : F0 m (pc + 3) ls (.ref (B + n) :: st) = { (F0 m pc ls (.int a :: st)) with pc := pc + 3, stack := .ref H.size :: st } := by rw [hz]
  rw [← hre]
  exact k H1 locs ls hP1 ⟨Nat.le_trans hS.1 (by omega), fun q h1 h2 => (o1 q (Nat.lt_of_lt_of_le h1 hS.1)).trans (hS.2.1 q h1 h2), hS.2.2⟩ (by omega) hl
set_option maxHeartbeats 4000000 in
theorem wc_aast {o q N : Nat} {f : Nat → Option Nat} {fs : List Value} {i : Int32} (X : Xc Γ cc nL own d mC mS) (ho : o < n) (hq : q < n) (he : e o = .inl ((bG Γ).2.2.2.2.2, N, .inr (.inr (.inr (.inr f))))) (hv : e q = .inr (4, fs)) (hin : vp_in i N) (hd : decode cc pc = .ok (.aastore, 1)) (k : Wc Γ nL (pc + 1) L st n (va_up e o (.inl ((bG Γ).2.2.2.2.2, N, .inr (.inr (.inr (.inr (va_up f i.toNatClampNeg (some (bB Γ + q))))))))) cells slots) : Wc Γ nL pc L (.ref (bB Γ + q) :: .int i :: .ref (bB Γ + o) :: st) n e cells slots := by
  obtain ⟨p, l, ev, R, s, m, args, below, meth, c, Q, g, B⟩ := Γ
  obtain ⟨hxe, hb, hml, hown, hts, hK, hNK, hB, hfr, hlo, hce, hsl, hg⟩ := X
  intro H locs ls hP hS hz hl
  have ha : (wl B n e)[o]? = some (B + o, .inl (g.2.2.2.2.2, N, .inr (.inr (.inr (.inr f))))) := by rw [wl_at ho, he]
  have hvq : (wl B n e)[q]? = some (B + q, .inr (4, fs)) := by rw [wl_at hq, hv]
  have hlt : i.toNatClampNeg < N := Nat.not_le.mp fun z => hin (Or.inr z)
  have h0 : ¬ i < 0 := fun z => hin (Or.inl z)
  obtain ⟨r', hr', cellV, g1, g2, g3, -⟩ := hP q _ hvq
  have hcls := (hK.1.1 4 (RX4, TX4, 7) rfl).2
  obtain ⟨kA, comp, k1, k2, k3, -⟩ := (hK.1.2 3 (g.2.2.2.2.2, .object RX4) rfl).2
  have hcomp : comp = g.2.1.1 4 := Option.some.inj (k3.symm.trans hcls.1)
  subst hcomp
  obtain ⟨kC, hkC, -⟩ := hcls.2
  refine W.aast hxe hb (hP o _ ha) (fun z h => by cases h) (fun h => by cases h) k1 k2 rfl hkC ⟨h0, by show _ < (arrV _ _ _).slots.size; rw [arrV_size]; exact hlt⟩ g1 (fun z h => by rw [g3] at h; cases h) (by rw [g2]; exact hkC) (by rw [g2]; exact va_assign hcls) rfl rfl hd fun H1 e1 z oq => ?_
  have hP1 := hP.set (e := .inl (g.2.2.2.2.2, N, .inr (.inr (.inr (.inr (va_up f i.toNatClampNeg (some (B + q)))))))) (H1 := H1) wl_D ha (by
    show H1[B + o]? = some (vp_cell _ _)
    rw [e1, vp_cell_q, vp_cell_q, arrV_store]
    congr 2
    funext z
    by_cases hz1 : z = i.toNatClampNeg
    · subst hz1
      simp [updV, va_up, va_rf]
    · simp [updV, va_up, hz1]) oq
  rw [wl_set ho] at hP1
  exact k H1 _ ls hP1 (hS.put z oq (by show B ≤ B + o; omega)) (by rw [z]; exact hz) hl
end WC2
/-- what the two constructors leave -/
def I1 : MI := fun i k => if i = 178 ∧ k < 16 then -1 else I0 i k
def cz1 (g : GE) (i : Nat) : va_E := cel g (I1 i) (J0 i) i
def CJ (l : Launch) (g : GE) (B : Nat) (mc ms : Nat) (e0 : Nat → va_E) (x0 : va_E) : Prop :=
  Met l yX11_init (.code yX11_init cX11_init 2 none :: TT) (rmc 1 mc ms) (fun v U => v = #[.ref (B + 177)] ∧ (∃ e : Nat → va_E, e 177 = x0 ∧ (∀ i, i < 177 → e i = e0 i) ∧ va_P g.2.1 vwCl (wl B (177 + 1) e) U.heap) ∧ U.heap.size = B + (177 + 1) ∧ KG g U ∧ NK U ∧ B ≤ U.heap.size)
    (fun _ st oc t => (oc = .returned none ∧ (∃ e : Nat → va_E, (∀ i, 177 ≤ i → i < 221 → e i = cz1 g i) ∧ (∀ i, i < 177 → e i = e0 i) ∧ va_P g.2.1 vwCl (wl B 221 e) t.heap) ∧ t.heap.size = B + 221) ∧ va_F (fun q => B ≤ q) st t) mc ms (fun q => B ≤ q)
theorem dX10_init_0 : decode cX10_init 0 = .ok (.aload_n 0, 1) := by decide +kernel
theorem dX10_init_1 : decode cX10_init 1 = .ok (.invokespecial 3, 3) := by decide +kernel
theorem dX10_init_4 : decode cX10_init 4 = .ok (.aload_n 0, 1) := by decide +kernel
theorem dX10_init_5 : decode cX10_init 5 = .ok (.bipush 16, 2) := by decide +kernel
theorem dX10_init_7 : decode cX10_init 7 = .ok (.anewarray 9, 3) := by decide +kernel
theorem dX10_init_10 : decode cX10_init 10 = .ok (.putfield 11, 3) := by decide +kernel
theorem dX10_init_13 : decode cX10_init 13 = .ok (.aload_n 0, 1) := by decide +kernel
theorem dX10_init_14 : decode cX10_init 14 = .ok (.new 15, 3) := by decide +kernel
theorem dX10_init_17 : decode cX10_init 17 = .ok (.dup, 1) := by decide +kernel
theorem dX10_init_18 : decode cX10_init 18 = .ok (.invokespecial 17, 3) := by decide +kernel
theorem dX10_init_21 : decode cX10_init 21 = .ok (.putfield 18, 3) := by decide +kernel
theorem dX10_init_24 : decode cX10_init 24 = .ok (.aload_n 0, 1) := by decide +kernel
theorem dX10_init_25 : decode cX10_init 25 = .ok (.new 22, 3) := by decide +kernel
theorem dX10_init_28 : decode cX10_init 28 = .ok (.dup, 1) := by decide +kernel
theorem dX10_init_29 : decode cX10_init 29 = .ok (.invokespecial 24, 3) := by decide +kernel
theorem dX10_init_32 : decode cX10_init 32 = .ok (.putfield 25, 3) := by decide +kernel
theorem dX10_init_35 : decode cX10_init 35 = .ok (.aload_n 0, 1) := by decide +kernel
theorem dX10_init_36 : decode cX10_init 36 = .ok (.new 29, 3) := by decide +kernel
theorem dX10_init_39 : decode cX10_init 39 = .ok (.dup, 1) := by decide +kernel
theorem dX10_init_40 : decode cX10_init 40 = .ok (.invokespecial 31, 3) := by decide +kernel
theorem dX10_init_43 : decode cX10_init 43 = .ok (.putfield 32, 3) := by decide +kernel
theorem dX10_init_46 : decode cX10_init 46 = .ok (.aload_n 0, 1) := by decide +kernel
theorem dX10_init_47 : decode cX10_init 47 = .ok (.new 36, 3) := by decide +kernel
theorem dX10_init_50 : decode cX10_init 50 = .ok (.dup, 1) := by decide +kernel
theorem dX10_init_51 : decode cX10_init 51 = .ok (.invokespecial 38, 3) := by decide +kernel
theorem dX10_init_54 : decode cX10_init 54 = .ok (.putfield 39, 3) := by decide +kernel
theorem dX10_init_57 : decode cX10_init 57 = .ok (.aload_n 0, 1) := by decide +kernel
theorem dX10_init_58 : decode cX10_init 58 = .ok (.new 43, 3) := by decide +kernel
theorem dX10_init_61 : decode cX10_init 61 = .ok (.dup, 1) := by decide +kernel
theorem dX10_init_62 : decode cX10_init 62 = .ok (.invokespecial 45, 3) := by decide +kernel
theorem dX10_init_65 : decode cX10_init 65 = .ok (.putfield 46, 3) := by decide +kernel
theorem dX10_init_68 : decode cX10_init 68 = .ok (.aload_n 0, 1) := by decide +kernel
theorem dX10_init_69 : decode cX10_init 69 = .ok (.new 50, 3) := by decide +kernel
theorem dX10_init_72 : decode cX10_init 72 = .ok (.dup, 1) := by decide +kernel
theorem dX10_init_73 : decode cX10_init 73 = .ok (.invokespecial 52, 3) := by decide +kernel
theorem dX10_init_76 : decode cX10_init 76 = .ok (.putfield 53, 3) := by decide +kernel
theorem dX10_init_79 : decode cX10_init 79 = .ok (.aload_n 0, 1) := by decide +kernel
theorem dX10_init_80 : decode cX10_init 80 = .ok (.new 57, 3) := by decide +kernel
theorem dX10_init_83 : decode cX10_init 83 = .ok (.dup, 1) := by decide +kernel
theorem dX10_init_84 : decode cX10_init 84 = .ok (.invokespecial 59, 3) := by decide +kernel
theorem dX10_init_87 : decode cX10_init 87 = .ok (.putfield 60, 3) := by decide +kernel
theorem dX10_init_90 : decode cX10_init 90 = .ok (.aload_n 0, 1) := by decide +kernel
theorem dX10_init_91 : decode cX10_init 91 = .ok (.iconst 0, 1) := by decide +kernel
theorem dX10_init_92 : decode cX10_init 92 = .ok (.putfield 64, 3) := by decide +kernel
theorem dX10_init_95 : decode cX10_init 95 = .ok (.iconst 0, 1) := by decide +kernel
theorem dX10_init_96 : decode cX10_init 96 = .ok (.istore_n 1, 1) := by decide +kernel
theorem dX10_init_97 : decode cX10_init 97 = .ok (.iload_n 1, 1) := by decide +kernel
theorem dX10_init_98 : decode cX10_init 98 = .ok (.bipush 16, 2) := by decide +kernel
theorem dX10_init_100 : decode cX10_init 100 = .ok (.if_icmp .ge 22, 3) := by decide +kernel
theorem dX10_init_103 : decode cX10_init 103 = .ok (.aload_n 0, 1) := by decide +kernel
theorem dX10_init_104 : decode cX10_init 104 = .ok (.getfield 11, 3) := by decide +kernel
theorem dX10_init_107 : decode cX10_init 107 = .ok (.iload_n 1, 1) := by decide +kernel
theorem dX10_init_108 : decode cX10_init 108 = .ok (.new 9, 3) := by decide +kernel
theorem dX10_init_111 : decode cX10_init 111 = .ok (.dup, 1) := by decide +kernel
theorem dX10_init_112 : decode cX10_init 112 = .ok (.invokespecial 68, 3) := by decide +kernel
theorem dX10_init_115 : decode cX10_init 115 = .ok (.aastore, 1) := by decide +kernel
theorem dX10_init_116 : decode cX10_init 116 = .ok (.iinc 1 1, 3) := by decide +kernel
theorem dX10_init_119 : decode cX10_init 119 = .ok (.goto (-22), 3) := by decide +kernel
theorem dX10_init_122 : decode cX10_init 122 = .ok (.return_, 1) := by decide +kernel
/-- as WI, for the school: cell 1 is the desk with p places -/
def WS (Γ : Cty) (pc : Nat) (L : List (Nat × Value)) (fs : List Value) (p n : Nat) (cells slots : Nat) : Prop :=
  ∀ e : Nat → va_E, e 0 = .inr (8, fs) → e 1 = .inl ((bG Γ).2.2.2.2.2, 16, .inr (.inr (.inr (.inr (fun k => if k < p then some (bB Γ + (65 + 7 * k)) else none))))) → (∀ i, 1 < i → i < n → e i = cz (bG Γ) i) → Wc Γ 2 pc L [] n e cells slots
theorem mlo_X10 : Cond.methodLink RX10 3 objectInit ∈ TT := TT_at 129 (by decide +kernel) rfl
theorem ck_X10_9 : Cond.classLink RX10 9 RX4 ∈ TT := TT_at 132 (by decide +kernel) rfl
theorem ck_X10_15 : Cond.classLink RX10 15 RX0 ∈ TT := TT_at 134 (by decide +kernel) rfl
theorem ck_X10_22 : Cond.classLink RX10 22 RX1 ∈ TT := TT_at 179 (by decide +kernel) rfl
theorem ck_X10_29 : Cond.classLink RX10 29 RX7 ∈ TT := TT_at 260 (by decide +kernel) rfl
theorem ck_X10_36 : Cond.classLink RX10 36 RX6 ∈ TT := TT_at 273 (by decide +kernel) rfl
theorem ck_X10_43 : Cond.classLink RX10 43 RX5 ∈ TT := TT_at 310 (by decide +kernel) rfl
theorem ck_X10_50 : Cond.classLink RX10 50 RX2 ∈ TT := TT_at 365 (by decide +kernel) rfl
theorem ck_X10_57 : Cond.classLink RX10 57 RX3 ∈ TT := TT_at 397 (by decide +kernel) rfl
theorem ck4 : True := trivial
set_option maxRecDepth 100000 in
set_option maxHeartbeats 4000000 in
theorem sc_loop {Γ : Cty} {e0 : Nat → va_E} (X : Xc Γ cX10_init 2 RX10 4 176 10888) (Y : RtC Γ 0 177 176 10888 e0) (hm : (bM Γ).name = "<init>") (hg : (bG Γ).1 = fun i => bB Γ + i) : ∀ (r p : Nat), p + r = 16 → WS Γ 97 [(1, .int (nI p)), (0, .ref (bB Γ + 0))] [.ref (bB Γ + 1), .ref (bB Γ + 2), .ref (bB Γ + 12), .ref (bB Γ + 23), .ref (bB Γ + 26), .ref (bB Γ + 37), .ref (bB Γ + 52), .ref (bB Γ + 60), .int 0] p (65 + 7 * p) (64 + 7 * p) (8296 + 162 * p) := by
  intro r
  induction r with
  | zero =>
    intro p hp e f0 f1 f2
    have hp : p = 16 := by omega
    subst hp
    refine wc_iload_n X dX10_init_97 0 rfl (wc_bipush X dX10_init_98 bi_16 ?_)
    refine wc_icmp_ge (tgt := 122) X dX10_init_100 (by decide) (fun _ => ?_) (fun hc => absurd (by decide) hc)
    refine wc_eqv (o := 1) (x' := (16, .inr (.inr (.inr (.inr (fun k => some ((bG Γ).1 (1 + 64 + 7 * k)))))))) (by decide) f1 ?_ ?_
    · rw [vp_cell_q, vp_cell_q, hg]
      unfold arrV
      congr 1
    · refine wc_ret (sz := 177) (o := 0) X Y dX10_init_122 (fun i h1 h2 => ?_) (fun i h => absurd h (by omega))
      by_cases hi : i = 1
      · subst hi
        rw [va_up_self]
        unfold cz
        rw [cel_p sh_1]
      · rw [va_up_ne _ _ hi]
        by_cases h0 : i = 0
        · subst h0
          rw [f0, cz_o sh_0 (by decide), hg]
          simp [flds, I0, J0, sh_0]
        · exact f2 i (by omega) (by omega)
  | succ r ih =>
    intro p hp e f0 f1 f2
    refine wc_iload_n X dX10_init_97 0 rfl (wc_bipush X dX10_init_98 bi_16 ?_)
    refine wc_icmp_ge (tgt := 122) X dX10_init_100 (by decide) (fun hc => absurd hc (nI_ge (b := 16) (by omega) (by decide))) (fun _ => ?_)
    refine wc_aload_n X dX10_init_103 1 rfl ?_
    refine wc_get (fs := [.ref (bB Γ + 1), .ref (bB Γ + 2), .ref (bB Γ + 12), .ref (bB Γ + 23), .ref (bB Γ + 26), .ref (bB Γ + 37), .ref (bB Γ + 52), .ref (bB Γ + 60), .int 0]) (v := .ref (bB Γ + 1)) X (by omega) f0 rfl in_X10 0 (by decide) rfl fl_X10_11 rfl dX10_init_104 ?_
    refine wc_iload_n X dX10_init_107 0 rfl ?_
    refine wc_new (ci := 4) (C := RX4) (T := TX4) (N := 7) (fs := [.int 0, .null, .int 0, .int 0, .null, .int 0, .int 0]) X dX10_init_108 ck_X10_9 it_X4 ini_X4 in_X4 tyX4 tyX4_ok rfl (by decide) (by omega) (by omega) ?_
    refine wc_dup X dX10_init_111 rfl ?_
    have hok : okP (65 + 7 * p) := okP_all p (by omega)
    refine wc_init X dX10_init_112 (Or.inl (List.mem_of_getElem? (i := 12) rfl)) mi_X4 rfl rfl (by decide +kernel) (by decide) (ci_Place hg hok _) (Nat.le_of_ble_eq_true rfl) (by decide) (by omega) (by omega) (fun e' g1 g2 => ?_)
    have hpl : e' (65 + 7 * p) = .inr (4, flds (bG Γ).1 4 (I0 (65 + 7 * p)) (J0 (65 + 7 * p)) (65 + 7 * p)) := by rw [g1 _ (by omega) (by omega), cz_o hok.1 (by decide)]
    refine wc_aast X (o := 1) (q := 65 + 7 * p) (by omega) (by omega) (by rw [g2 1 (by omega), f1]) hpl (vp_in_nI (by omega) (by decide)) dX10_init_115 ?_
    refine wc_iinc (v := nI (p + 1)) (L' := [(1, .int (nI (p + 1))), (0, .ref (bB Γ + 0))]) X dX10_init_116 0 rfl (by rw [ic_1]; exact nI_1 p) (by decide) rfl ?_
    refine wc_goto (tgt := 97) X dX10_init_119 (by decide) ?_
    have hgo := ih (p + 1) (by omega)
    rw [show 65 + 7 * (p + 1) = 65 + 7 * p + 7 by omega, show 64 + 7 * (p + 1) = 64 + 7 * p + 1 + 6 by omega, show 8296 + 162 * (p + 1) = 8296 + 162 * p + 7 + 155 by omega] at hgo
    refine hgo _ ?_ ?_ ?_
    · rw [va_up_ne _ _ (by decide), g2 0 (by omega), f0]
    · rw [va_up_self, nI_clamp (by omega)]
      congr 5
      apply congrArg
      apply congrArg
      funext k
      by_cases hk : k = p
      · subst hk
        simp [va_up]
      · rw [va_up_ne _ _ hk]
        by_cases h1 : k < p
        · simp [h1, Nat.lt_succ_of_lt h1]
        · simp [h1, show ¬ k < p + 1 by omega]
    · intro i h1 h2
      rw [va_up_ne _ _ (by omega)]
      by_cases hi : i < 65 + 7 * p
      · rw [g2 i hi]; exact f2 i h1 hi
      · exact g1 i (by omega) (by omega)
set_option maxRecDepth 100000 in
set_option maxHeartbeats 4000000 in
theorem ci_School {l : Launch} {g : GE} {B : Nat} (hg : g.1 = fun i => B + i) (e0 : Nat → va_E) : CI l g B yX10_init cX10_init 2 4 176 10888 0 177 e0 (.inr (8, [.null, .null, .null, .null, .null, .null, .null, .null, .int 0])) := by
  refine CI.of hg pn_X10 rfl (Nat.le_of_ble_eq_true rfl) (fun Γ e hl hG hB hm X Y he hlow => ?_)
  subst hB; subst hG; subst hl
  replace X : Xc Γ cX10_init 2 RX10 4 176 10888 := X
  refine wc_aload_n X dX10_init_0 0 rfl ?_
  refine wc_obj X dX10_init_1 mlo_X10 ow_ok (by decide) ?_
  refine wc_aload_n X dX10_init_4 0 rfl ?_
  refine wc_bipush X dX10_init_5 bi_16 ?_
  refine wc_newq (N := 16) X dX10_init_7 ck_X10_9 (by decide) (by decide) (by decide) (by decide) (by decide) ?_
  refine wc_put (fs := [.null, .null, .null, .null, .null, .null, .null, .null, .int 0]) (fs' := [.ref (bB Γ + 1), .null, .null, .null, .null, .null, .null, .null, .int 0]) X hm (by decide) (by rw [va_up_ne _ _ (by decide), he]) rfl in_X10 tyX10 tyX10_ok nmX10 0 (by decide) rfl rfl fl_X10_11 rfl rfl (Nat.le_of_ble_eq_true rfl) rfl dX10_init_10 ?_
  refine (?_ : WS Γ 13 [(0, .ref (bB Γ + 0))] [.ref (bB Γ + 1), .null, .null, .null, .null, .null, .null, .null, .int 0] 0 2 1 16) _ (va_up_self _ _ _) (by simp [va_up]) (fun i h1 h2 => absurd h2 (by omega))
  intro e f0 f1 f2
  refine wc_aload_n X dX10_init_13 0 rfl ?_
  refine wc_new (ci := 0) (C := RX0) (T := TX0) (N := 12) (fs := [.int 0, .int 0, .int 0, .null, .null, .null, .null, .null, .null, .null, .null, .null]) X dX10_init_14 ck_X10_15 it_X0 ini_X0 in_X0 tyX0 tyX0_ok rfl (by decide) (by decide) (by decide) ?_
  refine wc_dup X dX10_init_17 rfl ?_
  refine wc_init X dX10_init_18 (Or.inl (List.mem_of_getElem? (i := 0) rfl)) mi_X0 rfl rfl (by decide +kernel) (by decide) (ci_Chart hg _) (Nat.le_of_ble_eq_true rfl) (by decide) (by decide) (by decide) (fun e' g1 g2 => ?_)
  refine wc_put (fs := [.ref (bB Γ + 1), .null, .null, .null, .null, .null, .null, .null, .int 0]) (fs' := [.ref (bB Γ + 1), .ref (bB Γ + 2), .null, .null, .null, .null, .null, .null, .int 0]) X hm (by decide) (by rw [g2 0 (by decide), f0]) rfl in_X10 tyX10 tyX10_ok nmX10 1 (by decide) rfl rfl fl_X10_18 rfl rfl (Nat.le_of_ble_eq_true rfl) rfl dX10_init_21 ?_
  refine (?_ : WS Γ 24 [(0, .ref (bB Γ + 0))] [.ref (bB Γ + 1), .ref (bB Γ + 2), .null, .null, .null, .null, .null, .null, .int 0] 0 12 11 2804) _ (va_up_self _ _ _) (by rw [va_up_ne _ _ (by decide), g2 1 (by decide), f1]) (fun i h1 h2 => by
    rw [va_up_ne _ _ (by omega)]
    by_cases hi : i < 2
    · rw [g2 i hi]; exact f2 i h1 hi
    · exact g1 i (by omega) h2)
  intro e f0 f1 f2
  refine wc_aload_n X dX10_init_24 0 rfl ?_
  refine wc_new (ci := 1) (C := RX1) (T := TX1) (N := 5) (fs := [.null, .null, .int 0, .int 0, .int 0]) X dX10_init_25 ck_X10_22 it_X1 ini_X1 in_X1 tyX1 tyX1_ok rfl (by decide) (by decide) (by decide) ?_
  refine wc_dup X dX10_init_28 rfl ?_
  refine wc_init X dX10_init_29 (Or.inl (List.mem_of_getElem? (i := 1) rfl)) mi_X1 rfl rfl (by decide +kernel) (by decide) (ci_Joining hg _) (Nat.le_of_ble_eq_true rfl) (by decide) (by decide) (by decide) (fun e' g1 g2 => ?_)
  refine wc_put (fs := [.ref (bB Γ + 1), .ref (bB Γ + 2), .null, .null, .null, .null, .null, .null, .int 0]) (fs' := [.ref (bB Γ + 1), .ref (bB Γ + 2), .ref (bB Γ + 12), .null, .null, .null, .null, .null, .int 0]) X hm (by decide) (by rw [g2 0 (by decide), f0]) rfl in_X10 tyX10 tyX10_ok nmX10 2 (by decide) rfl rfl fl_X10_25 rfl rfl (Nat.le_of_ble_eq_true rfl) rfl dX10_init_32 ?_
  refine (?_ : WS Γ 35 [(0, .ref (bB Γ + 0))] [.ref (bB Γ + 1), .ref (bB Γ + 2), .ref (bB Γ + 12), .null, .null, .null, .null, .null, .int 0] 0 23 22 3103) _ (va_up_self _ _ _) (by rw [va_up_ne _ _ (by decide), g2 1 (by decide), f1]) (fun i h1 h2 => by
    rw [va_up_ne _ _ (by omega)]
    by_cases hi : i < 12
    · rw [g2 i hi]; exact f2 i h1 hi
    · exact g1 i (by omega) h2)
  intro e f0 f1 f2
  refine wc_aload_n X dX10_init_35 0 rfl ?_
  refine wc_new (ci := 7) (C := RX7) (T := TX7) (N := 2) (fs := [.null, .null]) X dX10_init_36 ck_X10_29 it_X7 ini_X7 in_X7 tyX7 tyX7_ok rfl (by decide) (by decide) (by decide) ?_
  refine wc_dup X dX10_init_39 rfl ?_
  refine wc_init X dX10_init_40 (Or.inl (List.mem_of_getElem? (i := 5) rfl)) mi_X7 rfl rfl (by decide +kernel) (by decide) (ci_Tally hg _) (Nat.le_of_ble_eq_true rfl) (by decide) (by decide) (by decide) (fun e' g1 g2 => ?_)
  refine wc_put (fs := [.ref (bB Γ + 1), .ref (bB Γ + 2), .ref (bB Γ + 12), .null, .null, .null, .null, .null, .int 0]) (fs' := [.ref (bB Γ + 1), .ref (bB Γ + 2), .ref (bB Γ + 12), .ref (bB Γ + 23), .null, .null, .null, .null, .int 0]) X hm (by decide) (by rw [g2 0 (by decide), f0]) rfl in_X10 tyX10 tyX10_ok nmX10 3 (by decide) rfl rfl fl_X10_32 rfl rfl (Nat.le_of_ble_eq_true rfl) rfl dX10_init_43 ?_
  refine (?_ : WS Γ 46 [(0, .ref (bB Γ + 0))] [.ref (bB Γ + 1), .ref (bB Γ + 2), .ref (bB Γ + 12), .ref (bB Γ + 23), .null, .null, .null, .null, .int 0] 0 26 25 5065) _ (va_up_self _ _ _) (by rw [va_up_ne _ _ (by decide), g2 1 (by decide), f1]) (fun i h1 h2 => by
    rw [va_up_ne _ _ (by omega)]
    by_cases hi : i < 23
    · rw [g2 i hi]; exact f2 i h1 hi
    · exact g1 i (by omega) h2)
  intro e f0 f1 f2
  refine wc_aload_n X dX10_init_46 0 rfl ?_
  refine wc_new (ci := 6) (C := RX6) (T := TX6) (N := 9) (fs := [.null, .int 0, .int 0, .int 0, .null, .null, .null, .null, .null]) X dX10_init_47 ck_X10_36 it_X6 ini_X6 in_X6 tyX6 tyX6_ok rfl (by decide) (by decide) (by decide) ?_
  refine wc_dup X dX10_init_50 rfl ?_
  refine wc_init X dX10_init_51 (Or.inl (List.mem_of_getElem? (i := 6) rfl)) mi_X6 rfl rfl (by decide +kernel) (by decide) (ci_Suite hg _) (Nat.le_of_ble_eq_true rfl) (by decide) (by decide) (by decide) (fun e' g1 g2 => ?_)
  refine wc_put (fs := [.ref (bB Γ + 1), .ref (bB Γ + 2), .ref (bB Γ + 12), .ref (bB Γ + 23), .null, .null, .null, .null, .int 0]) (fs' := [.ref (bB Γ + 1), .ref (bB Γ + 2), .ref (bB Γ + 12), .ref (bB Γ + 23), .ref (bB Γ + 26), .null, .null, .null, .int 0]) X hm (by decide) (by rw [g2 0 (by decide), f0]) rfl in_X10 tyX10 tyX10_ok nmX10 4 (by decide) rfl rfl fl_X10_39 rfl rfl (Nat.le_of_ble_eq_true rfl) rfl dX10_init_54 ?_
  refine (?_ : WS Γ 57 [(0, .ref (bB Γ + 0))] [.ref (bB Γ + 1), .ref (bB Γ + 2), .ref (bB Γ + 12), .ref (bB Γ + 23), .ref (bB Γ + 26), .null, .null, .null, .int 0] 0 37 36 7469) _ (va_up_self _ _ _) (by rw [va_up_ne _ _ (by decide), g2 1 (by decide), f1]) (fun i h1 h2 => by
    rw [va_up_ne _ _ (by omega)]
    by_cases hi : i < 26
    · rw [g2 i hi]; exact f2 i h1 hi
    · exact g1 i (by omega) h2)
  intro e f0 f1 f2
  refine wc_aload_n X dX10_init_57 0 rfl ?_
  refine wc_new (ci := 5) (C := RX5) (T := TX5) (N := 12) (fs := [.int 0, .int 0, .int 0, .int 0, .int 0, .long 0, .null, .null, .null, .null, .null, .null]) X dX10_init_58 ck_X10_43 it_X5 ini_X5 in_X5 tyX5 tyX5_ok rfl (by decide) (by decide) (by decide) ?_
  refine wc_dup X dX10_init_61 rfl ?_
  refine wc_init X dX10_init_62 (Or.inl (List.mem_of_getElem? (i := 8) rfl)) mi_X5 rfl rfl (by decide +kernel) (by decide) (ci_Pupil hg _) (Nat.le_of_ble_eq_true rfl) (by decide) (by decide) (by decide) (fun e' g1 g2 => ?_)
  refine wc_put (fs := [.ref (bB Γ + 1), .ref (bB Γ + 2), .ref (bB Γ + 12), .ref (bB Γ + 23), .ref (bB Γ + 26), .null, .null, .null, .int 0]) (fs' := [.ref (bB Γ + 1), .ref (bB Γ + 2), .ref (bB Γ + 12), .ref (bB Γ + 23), .ref (bB Γ + 26), .ref (bB Γ + 37), .null, .null, .int 0]) X hm (by decide) (by rw [g2 0 (by decide), f0]) rfl in_X10 tyX10 tyX10_ok nmX10 5 (by decide) rfl rfl fl_X10_46 rfl rfl (Nat.le_of_ble_eq_true rfl) rfl dX10_init_65 ?_
  refine (?_ : WS Γ 68 [(0, .ref (bB Γ + 0))] [.ref (bB Γ + 1), .ref (bB Γ + 2), .ref (bB Γ + 12), .ref (bB Γ + 23), .ref (bB Γ + 26), .ref (bB Γ + 37), .null, .null, .int 0] 0 52 51 8013) _ (va_up_self _ _ _) (by rw [va_up_ne _ _ (by decide), g2 1 (by decide), f1]) (fun i h1 h2 => by
    rw [va_up_ne _ _ (by omega)]
    by_cases hi : i < 37
    · rw [g2 i hi]; exact f2 i h1 hi
    · exact g1 i (by omega) h2)
  intro e f0 f1 f2
  refine wc_aload_n X dX10_init_68 0 rfl ?_
  refine wc_new (ci := 2) (C := RX2) (T := TX2) (N := 8) (fs := [.int 0, .null, .null, .null, .null, .null, .null, .null]) X dX10_init_69 ck_X10_50 it_X2 ini_X2 in_X2 tyX2 tyX2_ok rfl (by decide) (by decide) (by decide) ?_
  refine wc_dup X dX10_init_72 rfl ?_
  refine wc_init X dX10_init_73 (Or.inl (List.mem_of_getElem? (i := 10) rfl)) mi_X2 rfl rfl (by decide +kernel) (by decide) (ci_Known hg _) (Nat.le_of_ble_eq_true rfl) (by decide) (by decide) (by decide) (fun e' g1 g2 => ?_)
  refine wc_put (fs := [.ref (bB Γ + 1), .ref (bB Γ + 2), .ref (bB Γ + 12), .ref (bB Γ + 23), .ref (bB Γ + 26), .ref (bB Γ + 37), .null, .null, .int 0]) (fs' := [.ref (bB Γ + 1), .ref (bB Γ + 2), .ref (bB Γ + 12), .ref (bB Γ + 23), .ref (bB Γ + 26), .ref (bB Γ + 37), .ref (bB Γ + 52), .null, .int 0]) X hm (by decide) (by rw [g2 0 (by decide), f0]) rfl in_X10 tyX10 tyX10_ok nmX10 6 (by decide) rfl rfl fl_X10_53 rfl rfl (Nat.le_of_ble_eq_true rfl) rfl dX10_init_76 ?_
  refine (?_ : WS Γ 79 [(0, .ref (bB Γ + 0))] [.ref (bB Γ + 1), .ref (bB Γ + 2), .ref (bB Γ + 12), .ref (bB Γ + 23), .ref (bB Γ + 26), .ref (bB Γ + 37), .ref (bB Γ + 52), .null, .int 0] 0 60 59 8149) _ (va_up_self _ _ _) (by rw [va_up_ne _ _ (by decide), g2 1 (by decide), f1]) (fun i h1 h2 => by
    rw [va_up_ne _ _ (by omega)]
    by_cases hi : i < 52
    · rw [g2 i hi]; exact f2 i h1 hi
    · exact g1 i (by omega) h2)
  intro e f0 f1 f2
  refine wc_aload_n X dX10_init_79 0 rfl ?_
  refine wc_new (ci := 3) (C := RX3) (T := TX3) (N := 7) (fs := [.int 0, .int 0, .int 0, .null, .null, .null, .null]) X dX10_init_80 ck_X10_57 it_X3 ini_X3 in_X3 tyX3 tyX3_ok rfl (by decide) (by decide) (by decide) ?_
  refine wc_dup X dX10_init_83 rfl ?_
  refine wc_init X dX10_init_84 (Or.inl (List.mem_of_getElem? (i := 11) rfl)) mi_X3 rfl rfl (by decide +kernel) (by decide) (ci_Machine hg okM_60 _) (Nat.le_of_ble_eq_true rfl) (by decide) (by decide) (by decide) (fun e' g1 g2 => ?_)
  refine wc_put (fs := [.ref (bB Γ + 1), .ref (bB Γ + 2), .ref (bB Γ + 12), .ref (bB Γ + 23), .ref (bB Γ + 26), .ref (bB Γ + 37), .ref (bB Γ + 52), .null, .int 0]) (fs' := [.ref (bB Γ + 1), .ref (bB Γ + 2), .ref (bB Γ + 12), .ref (bB Γ + 23), .ref (bB Γ + 26), .ref (bB Γ + 37), .ref (bB Γ + 52), .ref (bB Γ + 60), .int 0]) X hm (by decide) (by rw [g2 0 (by decide), f0]) rfl in_X10 tyX10 tyX10_ok nmX10 7 (by decide) rfl rfl fl_X10_60 rfl rfl (Nat.le_of_ble_eq_true rfl) rfl dX10_init_87 ?_
  refine (?_ : WS Γ 90 [(0, .ref (bB Γ + 0))] [.ref (bB Γ + 1), .ref (bB Γ + 2), .ref (bB Γ + 12), .ref (bB Γ + 23), .ref (bB Γ + 26), .ref (bB Γ + 37), .ref (bB Γ + 52), .ref (bB Γ + 60), .int 0] 0 65 64 8296) _ (va_up_self _ _ _) (by rw [va_up_ne _ _ (by decide), g2 1 (by decide), f1]) (fun i h1 h2 => by
    rw [va_up_ne _ _ (by omega)]
    by_cases hi : i < 60
    · rw [g2 i hi]; exact f2 i h1 hi
    · exact g1 i (by omega) h2)
  intro e f0 f1 f2
  refine wc_aload_n X dX10_init_90 0 rfl (wc_iconst X dX10_init_91 ic_0 ?_)
  refine wc_put (fs := [.ref (bB Γ + 1), .ref (bB Γ + 2), .ref (bB Γ + 12), .ref (bB Γ + 23), .ref (bB Γ + 26), .ref (bB Γ + 37), .ref (bB Γ + 52), .ref (bB Γ + 60), .int 0]) (fs' := [.ref (bB Γ + 1), .ref (bB Γ + 2), .ref (bB Γ + 12), .ref (bB Γ + 23), .ref (bB Γ + 26), .ref (bB Γ + 37), .ref (bB Γ + 52), .ref (bB Γ + 60), .int 0]) X hm (by decide) f0 rfl in_X10 tyX10 tyX10_ok nmX10 8 (by decide) rfl rfl fl_X10_64 rfl rfl (Nat.le_of_ble_eq_true rfl) rfl dX10_init_92 ?_
  refine wc_iconst X dX10_init_95 ic_0 ?_
  refine wc_istore_n (L' := [(1, .int 0), (0, .ref (bB Γ + 0))]) X dX10_init_96 rfl (by decide) rfl ?_
  exact sc_loop X Y hm hg 16 0 (by decide) _ (va_up_self _ _ _) (by rw [va_up_ne _ _ (by decide), f1]) (fun i h1 h2 => by rw [va_up_ne _ _ (by omega)]; exact f2 i h1 h2)
theorem dX11_init_0 : decode cX11_init 0 = .ok (.aload_n 0, 1) := by decide +kernel
theorem dX11_init_1 : decode cX11_init 1 = .ok (.invokespecial 1, 3) := by decide +kernel
theorem dX11_init_4 : decode cX11_init 4 = .ok (.aload_n 0, 1) := by decide +kernel
theorem dX11_init_5 : decode cX11_init 5 = .ok (.bipush 16, 2) := by decide +kernel
theorem dX11_init_7 : decode cX11_init 7 = .ok (.newarray .int, 2) := by decide +kernel
theorem dX11_init_9 : decode cX11_init 9 = .ok (.putfield 7, 3) := by decide +kernel
theorem dX11_init_12 : decode cX11_init 12 = .ok (.aload_n 0, 1) := by decide +kernel
theorem dX11_init_13 : decode cX11_init 13 = .ok (.bipush 16, 2) := by decide +kernel
theorem dX11_init_15 : decode cX11_init 15 = .ok (.newarray .int, 2) := by decide +kernel
theorem dX11_init_17 : decode cX11_init 17 = .ok (.putfield 13, 3) := by decide +kernel
theorem dX11_init_20 : decode cX11_init 20 = .ok (.aload_n 0, 1) := by decide +kernel
theorem dX11_init_21 : decode cX11_init 21 = .ok (.sipush 128, 3) := by decide +kernel
theorem dX11_init_24 : decode cX11_init 24 = .ok (.newarray .long, 2) := by decide +kernel
theorem dX11_init_26 : decode cX11_init 26 = .ok (.putfield 16, 3) := by decide +kernel
theorem dX11_init_29 : decode cX11_init 29 = .ok (.aload_n 0, 1) := by decide +kernel
theorem dX11_init_30 : decode cX11_init 30 = .ok (.bipush 16, 2) := by decide +kernel
theorem dX11_init_32 : decode cX11_init 32 = .ok (.newarray .int, 2) := by decide +kernel
theorem dX11_init_34 : decode cX11_init 34 = .ok (.putfield 20, 3) := by decide +kernel
theorem dX11_init_37 : decode cX11_init 37 = .ok (.aload_n 0, 1) := by decide +kernel
theorem dX11_init_38 : decode cX11_init 38 = .ok (.bipush 16, 2) := by decide +kernel
theorem dX11_init_40 : decode cX11_init 40 = .ok (.newarray .int, 2) := by decide +kernel
theorem dX11_init_42 : decode cX11_init 42 = .ok (.putfield 23, 3) := by decide +kernel
theorem dX11_init_45 : decode cX11_init 45 = .ok (.aload_n 0, 1) := by decide +kernel
theorem dX11_init_46 : decode cX11_init 46 = .ok (.bipush 16, 2) := by decide +kernel
theorem dX11_init_48 : decode cX11_init 48 = .ok (.newarray .boolean, 2) := by decide +kernel
theorem dX11_init_50 : decode cX11_init 50 = .ok (.putfield 26, 3) := by decide +kernel
theorem dX11_init_53 : decode cX11_init 53 = .ok (.aload_n 0, 1) := by decide +kernel
theorem dX11_init_54 : decode cX11_init 54 = .ok (.bipush 20, 2) := by decide +kernel
theorem dX11_init_56 : decode cX11_init 56 = .ok (.newarray .int, 2) := by decide +kernel
theorem dX11_init_58 : decode cX11_init 58 = .ok (.putfield 30, 3) := by decide +kernel
theorem dX11_init_61 : decode cX11_init 61 = .ok (.aload_n 0, 1) := by decide +kernel
theorem dX11_init_62 : decode cX11_init 62 = .ok (.bipush 20, 2) := by decide +kernel
theorem dX11_init_64 : decode cX11_init 64 = .ok (.newarray .int, 2) := by decide +kernel
theorem dX11_init_66 : decode cX11_init 66 = .ok (.putfield 33, 3) := by decide +kernel
theorem dX11_init_69 : decode cX11_init 69 = .ok (.aload_n 0, 1) := by decide +kernel
theorem dX11_init_70 : decode cX11_init 70 = .ok (.bipush 20, 2) := by decide +kernel
theorem dX11_init_72 : decode cX11_init 72 = .ok (.newarray .int, 2) := by decide +kernel
theorem dX11_init_74 : decode cX11_init 74 = .ok (.putfield 36, 3) := by decide +kernel
theorem dX11_init_77 : decode cX11_init 77 = .ok (.aload_n 0, 1) := by decide +kernel
theorem dX11_init_78 : decode cX11_init 78 = .ok (.sipush 280, 3) := by decide +kernel
theorem dX11_init_81 : decode cX11_init 81 = .ok (.newarray .int, 2) := by decide +kernel
theorem dX11_init_83 : decode cX11_init 83 = .ok (.putfield 39, 3) := by decide +kernel
theorem dX11_init_86 : decode cX11_init 86 = .ok (.aload_n 0, 1) := by decide +kernel
theorem dX11_init_87 : decode cX11_init 87 = .ok (.sipush 280, 3) := by decide +kernel
theorem dX11_init_90 : decode cX11_init 90 = .ok (.newarray .int, 2) := by decide +kernel
theorem dX11_init_92 : decode cX11_init 92 = .ok (.putfield 42, 3) := by decide +kernel
theorem dX11_init_95 : decode cX11_init 95 = .ok (.aload_n 0, 1) := by decide +kernel
theorem dX11_init_96 : decode cX11_init 96 = .ok (.sipush 1120, 3) := by decide +kernel
theorem dX11_init_99 : decode cX11_init 99 = .ok (.newarray .int, 2) := by decide +kernel
theorem dX11_init_101 : decode cX11_init 101 = .ok (.putfield 45, 3) := by decide +kernel
theorem dX11_init_104 : decode cX11_init 104 = .ok (.aload_n 0, 1) := by decide +kernel
theorem dX11_init_105 : decode cX11_init 105 = .ok (.sipush 1120, 3) := by decide +kernel
theorem dX11_init_108 : decode cX11_init 108 = .ok (.newarray .int, 2) := by decide +kernel
theorem dX11_init_110 : decode cX11_init 110 = .ok (.putfield 48, 3) := by decide +kernel
theorem dX11_init_113 : decode cX11_init 113 = .ok (.aload_n 0, 1) := by decide +kernel
theorem dX11_init_114 : decode cX11_init 114 = .ok (.bipush 57, 2) := by decide +kernel
theorem dX11_init_116 : decode cX11_init 116 = .ok (.newarray .int, 2) := by decide +kernel
theorem dX11_init_118 : decode cX11_init 118 = .ok (.putfield 51, 3) := by decide +kernel
theorem dX11_init_121 : decode cX11_init 121 = .ok (.aload_n 0, 1) := by decide +kernel
theorem dX11_init_122 : decode cX11_init 122 = .ok (.bipush 57, 2) := by decide +kernel
theorem dX11_init_124 : decode cX11_init 124 = .ok (.newarray .int, 2) := by decide +kernel
theorem dX11_init_126 : decode cX11_init 126 = .ok (.putfield 54, 3) := by decide +kernel
theorem dX11_init_129 : decode cX11_init 129 = .ok (.aload_n 0, 1) := by decide +kernel
theorem dX11_init_130 : decode cX11_init 130 = .ok (.bipush 57, 2) := by decide +kernel
theorem dX11_init_132 : decode cX11_init 132 = .ok (.newarray .long, 2) := by decide +kernel
theorem dX11_init_134 : decode cX11_init 134 = .ok (.putfield 57, 3) := by decide +kernel
theorem dX11_init_137 : decode cX11_init 137 = .ok (.aload_n 0, 1) := by decide +kernel
theorem dX11_init_138 : decode cX11_init 138 = .ok (.sipush 228, 3) := by decide +kernel
theorem dX11_init_141 : decode cX11_init 141 = .ok (.newarray .int, 2) := by decide +kernel
theorem dX11_init_143 : decode cX11_init 143 = .ok (.putfield 60, 3) := by decide +kernel
theorem dX11_init_146 : decode cX11_init 146 = .ok (.aload_n 0, 1) := by decide +kernel
theorem dX11_init_147 : decode cX11_init 147 = .ok (.sipush 256, 3) := by decide +kernel
theorem dX11_init_150 : decode cX11_init 150 = .ok (.newarray .boolean, 2) := by decide +kernel
theorem dX11_init_152 : decode cX11_init 152 = .ok (.putfield 63, 3) := by decide +kernel
theorem dX11_init_155 : decode cX11_init 155 = .ok (.aload_n 0, 1) := by decide +kernel
theorem dX11_init_156 : decode cX11_init 156 = .ok (.bipush 16, 2) := by decide +kernel
theorem dX11_init_158 : decode cX11_init 158 = .ok (.newarray .int, 2) := by decide +kernel
theorem dX11_init_160 : decode cX11_init 160 = .ok (.putfield 66, 3) := by decide +kernel
theorem dX11_init_163 : decode cX11_init 163 = .ok (.aload_n 0, 1) := by decide +kernel
theorem dX11_init_164 : decode cX11_init 164 = .ok (.sipush 280, 3) := by decide +kernel
theorem dX11_init_167 : decode cX11_init 167 = .ok (.newarray .long, 2) := by decide +kernel
theorem dX11_init_169 : decode cX11_init 169 = .ok (.putfield 69, 3) := by decide +kernel
theorem dX11_init_172 : decode cX11_init 172 = .ok (.aload_n 0, 1) := by decide +kernel
theorem dX11_init_173 : decode cX11_init 173 = .ok (.iconst 4, 1) := by decide +kernel
theorem dX11_init_174 : decode cX11_init 174 = .ok (.newarray .int, 2) := by decide +kernel
theorem dX11_init_176 : decode cX11_init 176 = .ok (.putfield 72, 3) := by decide +kernel
theorem dX11_init_179 : decode cX11_init 179 = .ok (.aload_n 0, 1) := by decide +kernel
theorem dX11_init_180 : decode cX11_init 180 = .ok (.iconst 4, 1) := by decide +kernel
theorem dX11_init_181 : decode cX11_init 181 = .ok (.newarray .int, 2) := by decide +kernel
theorem dX11_init_183 : decode cX11_init 183 = .ok (.putfield 75, 3) := by decide +kernel
theorem dX11_init_186 : decode cX11_init 186 = .ok (.aload_n 0, 1) := by decide +kernel
theorem dX11_init_187 : decode cX11_init 187 = .ok (.sipush 1736, 3) := by decide +kernel
theorem dX11_init_190 : decode cX11_init 190 = .ok (.newarray .long, 2) := by decide +kernel
theorem dX11_init_192 : decode cX11_init 192 = .ok (.putfield 78, 3) := by decide +kernel
theorem dX11_init_195 : decode cX11_init 195 = .ok (.aload_n 0, 1) := by decide +kernel
theorem dX11_init_196 : decode cX11_init 196 = .ok (.sipush 256, 3) := by decide +kernel
theorem dX11_init_199 : decode cX11_init 199 = .ok (.newarray .int, 2) := by decide +kernel
theorem dX11_init_201 : decode cX11_init 201 = .ok (.putfield 81, 3) := by decide +kernel
theorem dX11_init_204 : decode cX11_init 204 = .ok (.aload_n 0, 1) := by decide +kernel
theorem dX11_init_205 : decode cX11_init 205 = .ok (.sipush 256, 3) := by decide +kernel
theorem dX11_init_208 : decode cX11_init 208 = .ok (.newarray .int, 2) := by decide +kernel
theorem dX11_init_210 : decode cX11_init 210 = .ok (.putfield 84, 3) := by decide +kernel
theorem dX11_init_213 : decode cX11_init 213 = .ok (.aload_n 0, 1) := by decide +kernel
theorem dX11_init_214 : decode cX11_init 214 = .ok (.sipush 256, 3) := by decide +kernel
theorem dX11_init_217 : decode cX11_init 217 = .ok (.newarray .long, 2) := by decide +kernel
theorem dX11_init_219 : decode cX11_init 219 = .ok (.putfield 87, 3) := by decide +kernel
theorem dX11_init_222 : decode cX11_init 222 = .ok (.aload_n 0, 1) := by decide +kernel
theorem dX11_init_223 : decode cX11_init 223 = .ok (.sipush 256, 3) := by decide +kernel
theorem dX11_init_226 : decode cX11_init 226 = .ok (.newarray .boolean, 2) := by decide +kernel
theorem dX11_init_228 : decode cX11_init 228 = .ok (.putfield 90, 3) := by decide +kernel
theorem dX11_init_231 : decode cX11_init 231 = .ok (.aload_n 0, 1) := by decide +kernel
theorem dX11_init_232 : decode cX11_init 232 = .ok (.sipush 512, 3) := by decide +kernel
theorem dX11_init_235 : decode cX11_init 235 = .ok (.newarray .int, 2) := by decide +kernel
theorem dX11_init_237 : decode cX11_init 237 = .ok (.putfield 93, 3) := by decide +kernel
theorem dX11_init_240 : decode cX11_init 240 = .ok (.aload_n 0, 1) := by decide +kernel
theorem dX11_init_241 : decode cX11_init 241 = .ok (.sipush 512, 3) := by decide +kernel
theorem dX11_init_244 : decode cX11_init 244 = .ok (.newarray .int, 2) := by decide +kernel
theorem dX11_init_246 : decode cX11_init 246 = .ok (.putfield 96, 3) := by decide +kernel
theorem dX11_init_249 : decode cX11_init 249 = .ok (.aload_n 0, 1) := by decide +kernel
theorem dX11_init_250 : decode cX11_init 250 = .ok (.sipush 2048, 3) := by decide +kernel
theorem dX11_init_253 : decode cX11_init 253 = .ok (.newarray .int, 2) := by decide +kernel
theorem dX11_init_255 : decode cX11_init 255 = .ok (.putfield 99, 3) := by decide +kernel
theorem dX11_init_258 : decode cX11_init 258 = .ok (.aload_n 0, 1) := by decide +kernel
theorem dX11_init_259 : decode cX11_init 259 = .ok (.sipush 512, 3) := by decide +kernel
theorem dX11_init_262 : decode cX11_init 262 = .ok (.newarray .boolean, 2) := by decide +kernel
theorem dX11_init_264 : decode cX11_init 264 = .ok (.putfield 102, 3) := by decide +kernel
theorem dX11_init_267 : decode cX11_init 267 = .ok (.aload_n 0, 1) := by decide +kernel
theorem dX11_init_268 : decode cX11_init 268 = .ok (.sipush 512, 3) := by decide +kernel
theorem dX11_init_271 : decode cX11_init 271 = .ok (.newarray .int, 2) := by decide +kernel
theorem dX11_init_273 : decode cX11_init 273 = .ok (.putfield 105, 3) := by decide +kernel
theorem dX11_init_276 : decode cX11_init 276 = .ok (.aload_n 0, 1) := by decide +kernel
theorem dX11_init_277 : decode cX11_init 277 = .ok (.sipush 512, 3) := by decide +kernel
theorem dX11_init_280 : decode cX11_init 280 = .ok (.newarray .int, 2) := by decide +kernel
theorem dX11_init_282 : decode cX11_init 282 = .ok (.putfield 108, 3) := by decide +kernel
theorem dX11_init_285 : decode cX11_init 285 = .ok (.aload_n 0, 1) := by decide +kernel
theorem dX11_init_286 : decode cX11_init 286 = .ok (.sipush 6000, 3) := by decide +kernel
theorem dX11_init_289 : decode cX11_init 289 = .ok (.newarray .long, 2) := by decide +kernel
theorem dX11_init_291 : decode cX11_init 291 = .ok (.putfield 111, 3) := by decide +kernel
theorem dX11_init_294 : decode cX11_init 294 = .ok (.aload_n 0, 1) := by decide +kernel
theorem dX11_init_295 : decode cX11_init 295 = .ok (.bipush 32, 2) := by decide +kernel
theorem dX11_init_297 : decode cX11_init 297 = .ok (.newarray .long, 2) := by decide +kernel
theorem dX11_init_299 : decode cX11_init 299 = .ok (.putfield 114, 3) := by decide +kernel
theorem dX11_init_302 : decode cX11_init 302 = .ok (.aload_n 0, 1) := by decide +kernel
theorem dX11_init_303 : decode cX11_init 303 = .ok (.bipush 16, 2) := by decide +kernel
theorem dX11_init_305 : decode cX11_init 305 = .ok (.newarray .long, 2) := by decide +kernel
theorem dX11_init_307 : decode cX11_init 307 = .ok (.putfield 117, 3) := by decide +kernel
theorem dX11_init_310 : decode cX11_init 310 = .ok (.aload_n 0, 1) := by decide +kernel
theorem dX11_init_311 : decode cX11_init 311 = .ok (.bipush 16, 2) := by decide +kernel
theorem dX11_init_313 : decode cX11_init 313 = .ok (.newarray .long, 2) := by decide +kernel
theorem dX11_init_315 : decode cX11_init 315 = .ok (.putfield 120, 3) := by decide +kernel
theorem dX11_init_318 : decode cX11_init 318 = .ok (.aload_n 0, 1) := by decide +kernel
theorem dX11_init_319 : decode cX11_init 319 = .ok (.bipush 32, 2) := by decide +kernel
theorem dX11_init_321 : decode cX11_init 321 = .ok (.newarray .long, 2) := by decide +kernel
theorem dX11_init_323 : decode cX11_init 323 = .ok (.putfield 123, 3) := by decide +kernel
theorem dX11_init_326 : decode cX11_init 326 = .ok (.aload_n 0, 1) := by decide +kernel
theorem dX11_init_327 : decode cX11_init 327 = .ok (.bipush 64, 2) := by decide +kernel
theorem dX11_init_329 : decode cX11_init 329 = .ok (.newarray .long, 2) := by decide +kernel
theorem dX11_init_331 : decode cX11_init 331 = .ok (.putfield 126, 3) := by decide +kernel
theorem dX11_init_334 : decode cX11_init 334 = .ok (.aload_n 0, 1) := by decide +kernel
theorem dX11_init_335 : decode cX11_init 335 = .ok (.bipush 12, 2) := by decide +kernel
theorem dX11_init_337 : decode cX11_init 337 = .ok (.newarray .long, 2) := by decide +kernel
theorem dX11_init_339 : decode cX11_init 339 = .ok (.putfield 129, 3) := by decide +kernel
theorem dX11_init_342 : decode cX11_init 342 = .ok (.aload_n 0, 1) := by decide +kernel
theorem dX11_init_343 : decode cX11_init 343 = .ok (.bipush 12, 2) := by decide +kernel
theorem dX11_init_345 : decode cX11_init 345 = .ok (.newarray .int, 2) := by decide +kernel
theorem dX11_init_347 : decode cX11_init 347 = .ok (.putfield 132, 3) := by decide +kernel
theorem dX11_init_350 : decode cX11_init 350 = .ok (.aload_n 0, 1) := by decide +kernel
theorem dX11_init_351 : decode cX11_init 351 = .ok (.bipush 64, 2) := by decide +kernel
theorem dX11_init_353 : decode cX11_init 353 = .ok (.newarray .int, 2) := by decide +kernel
theorem dX11_init_355 : decode cX11_init 355 = .ok (.putfield 135, 3) := by decide +kernel
theorem dX11_init_358 : decode cX11_init 358 = .ok (.aload_n 0, 1) := by decide +kernel
theorem dX11_init_359 : decode cX11_init 359 = .ok (.bipush 12, 2) := by decide +kernel
theorem dX11_init_361 : decode cX11_init 361 = .ok (.newarray .int, 2) := by decide +kernel
theorem dX11_init_363 : decode cX11_init 363 = .ok (.putfield 138, 3) := by decide +kernel
theorem dX11_init_366 : decode cX11_init 366 = .ok (.iconst 0, 1) := by decide +kernel
theorem dX11_init_367 : decode cX11_init 367 = .ok (.istore_n 1, 1) := by decide +kernel
theorem dX11_init_368 : decode cX11_init 368 = .ok (.iload_n 1, 1) := by decide +kernel
theorem dX11_init_369 : decode cX11_init 369 = .ok (.bipush 16, 2) := by decide +kernel
theorem dX11_init_371 : decode cX11_init 371 = .ok (.if_icmp .ge 16, 3) := by decide +kernel
theorem dX11_init_374 : decode cX11_init 374 = .ok (.aload_n 0, 1) := by decide +kernel
theorem dX11_init_375 : decode cX11_init 375 = .ok (.getfield 7, 3) := by decide +kernel
theorem dX11_init_378 : decode cX11_init 378 = .ok (.iload_n 1, 1) := by decide +kernel
theorem dX11_init_379 : decode cX11_init 379 = .ok (.iconst (-1), 1) := by decide +kernel
theorem dX11_init_380 : decode cX11_init 380 = .ok (.iastore, 1) := by decide +kernel
theorem dX11_init_381 : decode cX11_init 381 = .ok (.iinc 1 1, 3) := by decide +kernel
theorem dX11_init_384 : decode cX11_init 384 = .ok (.goto (-16), 3) := by decide +kernel
theorem dX11_init_387 : decode cX11_init 387 = .ok (.return_, 1) := by decide +kernel
theorem si_128 : (Int16.ofInt 128).toInt32 = 128 := by decide
theorem bi_20 : (Int8.ofInt 20).toInt32 = 20 := by decide
theorem si_280 : (Int16.ofInt 280).toInt32 = 280 := by decide
theorem si_1120 : (Int16.ofInt 1120).toInt32 = 1120 := by decide
theorem si_228 : (Int16.ofInt 228).toInt32 = 228 := by decide
theorem si_6000 : (Int16.ofInt 6000).toInt32 = 6000 := by decide
theorem bi_64 : (Int8.ofInt 64).toInt32 = 64 := by decide
theorem mlo_X11 : Cond.methodLink RX11 1 objectInit ∈ TT := TT_at 1159 (by decide +kernel) rfl
/-- as RtC, for the reference -/
def RtM (Γ : Cty) (mc ms : Nat) (e0 : Nat → va_E) : Prop := match Γ with
  | (p, l, ev, R, s, m, args, below, meth, c, Q, g, B) => Q = MQ below (fun _ st oc t => (oc = .returned none ∧ (∃ e : Nat → va_E, (∀ i, 177 ≤ i → i < 221 → e i = cz1 g i) ∧ (∀ i, i < 177 → e i = e0 i) ∧ va_P g.2.1 vwCl (wl B 221 e) t.heap) ∧ t.heap.size = B + 221) ∧ va_F (fun q => B ≤ q) st t) args s mc ms (fun q => B ≤ q) ∧ meth.sig.returnType = none ∧ meth.locks = false
theorem wc_retM {Γ : Cty} {cc : ByteArray} {nL d pc mC mS mc ms : Nat} {own : String} {L : List (Nat × Value)} {e e0 : Nat → va_E} (X : Xc Γ cc nL own d mC mS) (Y : RtM Γ mc ms e0) (hd : decode cc pc = .ok (.return_, 1)) (h1 : ∀ i, 177 ≤ i → i < 221 → e i = cz1 (bG Γ) i) (h2 : ∀ i, i < 177 → e i = e0 i) : Wc Γ nL pc L [] 221 e mc ms := by
  obtain ⟨p, l, ev, R, s, m, args, below, meth, c, Q, g, B⟩ := Γ
  obtain ⟨rfl, hr, hlk⟩ := Y
  intro H locs ls hP hS hz hl
  exact W.vret X.1 X.2.1 hr (fun t ht hW => ⟨⟨rfl, ⟨e, h1, h2, by rw [ht]; exact hP⟩, by rw [ht]; exact hz⟩, hS.F ht⟩) hS.2.2 hd hlk
set_option maxHeartbeats 4000000 in
theorem CJ.of {l : Launch} {g : GE} {B : Nat} {mc ms : Nat} {e0 : Nat → va_E} {x0 : va_E} (hg : g.1 = fun i => B + i)
    (body : ∀ (Γ : Cty) (e : Nat → va_E), bL Γ = l → bG Γ = g → bB Γ = B → (bM Γ).name = "<init>" → Xc Γ cX11_init 2 RX11 1 mc ms → RtM Γ mc ms e0 → e 177 = x0 → (∀ i, i < 177 → e i = e0 i) → Wc Γ 2 0 [(0, .ref (B + 177))] [] (177 + 1) e 0 0) : CJ l g B mc ms e0 x0 := by
  refine Met.ofW (cc := cX11_init) (maxL := 2) (ret := none) pn_X11 rfl ?_
  intro p ev s m args below meth c s₁ Bd hml hv
  obtain ⟨rfl, ⟨e, he, hlow, hP⟩, hz, hK, hN, hB⟩ := hv
  have hts := atoms_spec (ws := Cond.code yX11_init cX11_init 2 none :: TT) Bd.pre
  have hown : s.vm.findClass RX11 = some m.cls := findClass_of_methodNamed Bd.named
  have hin : meth.name = yX11_init.name := (name_of_methodNamed Bd.named Bd.method).1
  have hl := lv_entry [.ref (B + 177)] (n := 2) (Nat.le_of_ble_eq_true rfl)
  rw [show (#[Value.ref (B + 177)] : Array Value) = [Value.ref (B + 177)].toArray from rfl, lg_entry_eq]
  exact body (p, l, ev, (headSpec (Cond.code yX11_init cX11_init 2 none :: TT) (rmc 1 mc ms)).room, s, m, #[.ref (B + 177)], below, meth, c, _, g, B) e rfl rfl rfl hin
    ⟨Bd.exec, Bd.bytes, hml, hown, fun w hw => hts w (List.mem_cons_of_mem _ hw), hK, hN, hB, Nat.le_refl _, Nat.le_refl _, Nat.le_refl _, Nat.le_refl _, hg⟩
    ⟨rfl, Bd.returns, Bd.notSynchronized⟩ he hlow s.heap [] _ hP va_S.rf hz hl
set_option maxRecDepth 100000 in
set_option maxHeartbeats 4000000 in
theorem md_loop {Γ : Cty} {e0 : Nat → va_E} (X : Xc Γ cX11_init 2 RX11 1 43 17655) (Y : RtM Γ 43 17655 e0) (hg : (bG Γ).1 = fun i => bB Γ + i) : ∀ (r p : Nat), p + r = 16 → ∀ e : Nat → va_E, e 177 = .inr (9, [.ref (bB Γ + (178)), .ref (bB Γ + (179)), .ref (bB Γ + (180)), .ref (bB Γ + (181)), .ref (bB Γ + (182)), .ref (bB Γ + (183)), .ref (bB Γ + (184)), .ref (bB Γ + (185)), .ref (bB Γ + (186)), .ref (bB Γ + (187)), .ref (bB Γ + (188)), .ref (bB Γ + (189)), .ref (bB Γ + (190)), .int 0, .int 0, .int 0, .int 0, .ref (bB Γ + (191)), .ref (bB Γ + (192)), .ref (bB Γ + (193)), .ref (bB Γ + (194)), .ref (bB Γ + (195)), .ref (bB Γ + (196)), .ref (bB Γ + (197)), .ref (bB Γ + (198)), .ref (bB Γ + (199)), .int 0, .ref (bB Γ + (200)), .ref (bB Γ + (201)), .ref (bB Γ + (202)), .ref (bB Γ + (203)), .ref (bB Γ + (204)), .int 0, .ref (bB Γ + (205)), .ref (bB Γ + (206)), .ref (bB Γ + (207)), .ref (bB Γ + (208)), .ref (bB Γ + (209)), .ref (bB Γ + (210)), .int 0, .int 0, .ref (bB Γ + (211)), .int 0, .ref (bB Γ + (212)), .ref (bB Γ + (213)), .ref (bB Γ + (214)), .int 0, .int 0, .int 0, .int 0, .int 0, .ref (bB Γ + (215)), .ref (bB Γ + (216)), .int 0, .int 0, .long 0, .int 0, .ref (bB Γ + (217)), .ref (bB Γ + (218)), .int 0, .ref (bB Γ + (219)), .ref (bB Γ + (220))]) → e 178 = .inl ((bG Γ).2.2.1, 16, .inl (fun k => if k < p then -1 else 0)) → (∀ i, 178 < i → i < 221 → e i = cz (bG Γ) i) → (∀ i, i < 177 → e i = e0 i) → Wc Γ 2 368 [(1, .int (nI p)), (0, .ref (bB Γ + 177))] [] 221 e 43 17655 := by
  intro r
  induction r with
  | zero =>
    intro p hp e f0 f1 f2 f3
    have hp : p = 16 := by omega
    subst hp
    refine wc_iload_n X dX11_init_368 0 rfl (wc_bipush X dX11_init_369 bi_16 ?_)
    refine wc_icmp_ge (tgt := 387) X dX11_init_371 (by decide) (fun _ => ?_) (fun hc => absurd (by decide) hc)
    refine wc_retM X Y dX11_init_387 (fun i h1 h2 => ?_) f3
    by_cases h7 : i = 177
    · subst h7
      rw [f0]
      unfold cz1
      rw [cel_o sh_177 (by decide), hg]
      simp [flds, I1, I0, J0, sh_177]
    · by_cases h8 : i = 178
      · subst h8
        rw [f1]
        unfold cz1
        rw [cel_i sh_178]
        congr 3
        apply congrArg
        funext k
        by_cases hk : k < 16
        · simp [I1, hk]
        · simp [I1, I0, hk, sh_178]
      · rw [f2 i (by omega) h2]
        unfold cz cz1
        congr 1
        funext k
        simp [I1, h8]
  | succ r ih =>
    intro p hp e f0 f1 f2 f3
    refine wc_iload_n X dX11_init_368 0 rfl (wc_bipush X dX11_init_369 bi_16 ?_)
    refine wc_icmp_ge (tgt := 387) X dX11_init_371 (by decide) (fun hc => absurd hc (nI_ge (b := 16) (by omega) (by decide))) (fun _ => ?_)
    refine wc_aload_n X dX11_init_374 1 rfl ?_
    refine wc_get (fs := [.ref (bB Γ + (178)), .ref (bB Γ + (179)), .ref (bB Γ + (180)), .ref (bB Γ + (181)), .ref (bB Γ + (182)), .ref (bB Γ + (183)), .ref (bB Γ + (184)), .ref (bB Γ + (185)), .ref (bB Γ + (186)), .ref (bB Γ + (187)), .ref (bB Γ + (188)), .ref (bB Γ + (189)), .ref (bB Γ + (190)), .int 0, .int 0, .int 0, .int 0, .ref (bB Γ + (191)), .ref (bB Γ + (192)), .ref (bB Γ + (193)), .ref (bB Γ + (194)), .ref (bB Γ + (195)), .ref (bB Γ + (196)), .ref (bB Γ + (197)), .ref (bB Γ + (198)), .ref (bB Γ + (199)), .int 0, .ref (bB Γ + (200)), .ref (bB Γ + (201)), .ref (bB Γ + (202)), .ref (bB Γ + (203)), .ref (bB Γ + (204)), .int 0, .ref (bB Γ + (205)), .ref (bB Γ + (206)), .ref (bB Γ + (207)), .ref (bB Γ + (208)), .ref (bB Γ + (209)), .ref (bB Γ + (210)), .int 0, .int 0, .ref (bB Γ + (211)), .int 0, .ref (bB Γ + (212)), .ref (bB Γ + (213)), .ref (bB Γ + (214)), .int 0, .int 0, .int 0, .int 0, .int 0, .ref (bB Γ + (215)), .ref (bB Γ + (216)), .int 0, .int 0, .long 0, .int 0, .ref (bB Γ + (217)), .ref (bB Γ + (218)), .int 0, .ref (bB Γ + (219)), .ref (bB Γ + (220))]) (v := .ref (bB Γ + 178)) X (by omega) f0 rfl in_X11 0 (by decide) rfl fl_X11_7 rfl dX11_init_375 ?_
    refine wc_iload_n X dX11_init_378 0 rfl (wc_iconst X dX11_init_379 ic_m1 ?_)
    refine wc_iast X (o := 178) (by omega) f1 (vp_in_nI (by omega) (by decide)) dX11_init_380 ?_
    refine wc_iinc (v := nI (p + 1)) (L' := [(1, .int (nI (p + 1))), (0, .ref (bB Γ + 177))]) X dX11_init_381 0 rfl (by rw [ic_1]; exact nI_1 p) (by decide) rfl ?_
    refine wc_goto (tgt := 368) X dX11_init_384 (by decide) ?_
    refine ih (p + 1) (by omega) _ ?_ ?_ ?_ ?_
    · rw [va_up_ne _ _ (by decide)]; exact f0
    · rw [va_up_self, nI_clamp (by omega)]
      congr 3
      apply congrArg
      funext k
      unfold upd
      by_cases hk : k = p
      · subst hk
        simp
      · by_cases h1 : k < p
        · simp [hk, h1, Nat.lt_succ_of_lt h1]
        · simp [hk, h1, show ¬ k < p + 1 by omega]
    · intro i h1 h2
      rw [va_up_ne _ _ (by omega)]; exact f2 i h1 h2
    · intro i h1
      rw [va_up_ne _ _ (by omega)]; exact f3 i h1
set_option maxRecDepth 100000 in
set_option maxHeartbeats 4000000 in
theorem ci_Model {l : Launch} {g : GE} {B : Nat} (hg : g.1 = fun i => B + i) (e0 : Nat → va_E) : CJ l g B 43 17655 e0 (.inr (9, [.null, .null, .null, .null, .null, .null, .null, .null, .null, .null, .null, .null, .null, .int 0, .int 0, .int 0, .int 0, .null, .null, .null, .null, .null, .null, .null, .null, .null, .int 0, .null, .null, .null, .null, .null, .int 0, .null, .null, .null, .null, .null, .null, .int 0, .int 0, .null, .int 0, .null, .null, .null, .int 0, .int 0, .int 0, .int 0, .int 0, .null, .null, .int 0, .int 0, .long 0, .int 0, .null, .null, .int 0, .null, .null])) := by
  refine CJ.of hg (fun Γ e hl hG hB hm X Y he hlow => ?_)
  subst hB; subst hG; subst hl
  refine (?_ : WI Γ 2 0 177 9 [.null, .null, .null, .null, .null, .null, .null, .null, .null, .null, .null, .null, .null, .int 0, .int 0, .int 0, .int 0, .null, .null, .null, .null, .null, .null, .null, .null, .null, .int 0, .null, .null, .null, .null, .null, .int 0, .null, .null, .null, .null, .null, .null, .int 0, .int 0, .null, .int 0, .null, .null, .null, .int 0, .int 0, .int 0, .int 0, .int 0, .null, .null, .int 0, .int 0, .long 0, .int 0, .null, .null, .int 0, .null, .null] (177 + 1) e0 0 0) e he (fun i h1 h2 => absurd h2 (by omega)) hlow
  refine wi_super X dX11_init_0 dX11_init_1 mlo_X11 ow_ok (by decide) ?_
  refine wi_arr (n := 178) (t0 := 0) (ty := .int) (x := (16, .inl (fun _ => 0))) (fs' := [.ref (bB Γ + (178)), .null, .null, .null, .null, .null, .null, .null, .null, .null, .null, .null, .null, .int 0, .int 0, .int 0, .int 0, .null, .null, .null, .null, .null, .null, .null, .null, .null, .int 0, .null, .null, .null, .null, .null, .int 0, .null, .null, .null, .null, .null, .null, .int 0, .int 0, .null, .int 0, .null, .null, .null, .int 0, .int 0, .int 0, .int 0, .int 0, .null, .null, .int 0, .int 0, .long 0, .int 0, .null, .null, .int 0, .null, .null]) X hm (by omega) rfl in_X11 tyX11 tyX11_ok nmX11 dX11_init_4 rfl (fun _ _ _ _ _ _ h => wc_bipush X dX11_init_5 bi_16 h) dX11_init_7 dX11_init_9 ac_int rfl (fun U h => h) rfl (by decide) (by decide) (by decide) rfl (by decide) (by decide) 0 (by decide) rfl fl_X11_7 (fun _ => rfl) (fun _ => rfl) (Nat.le_of_ble_eq_true rfl) rfl (cz_i sh_178) ?_
  refine wi_arr (n := 179) (t0 := 0) (ty := .int) (x := (16, .inl (fun _ => 0))) (fs' := [.ref (bB Γ + (178)), .ref (bB Γ + (179)), .null, .null, .null, .null, .null, .null, .null, .null, .null, .null, .null, .int 0, .int 0, .int 0, .int 0, .null, .null, .null, .null, .null, .null, .null, .null, .null, .int 0, .null, .null, .null, .null, .null, .int 0, .null, .null, .null, .null, .null, .null, .int 0, .int 0, .null, .int 0, .null, .null, .null, .int 0, .int 0, .int 0, .int 0, .int 0, .null, .null, .int 0, .int 0, .long 0, .int 0, .null, .null, .int 0, .null, .null]) X hm (by omega) rfl in_X11 tyX11 tyX11_ok nmX11 dX11_init_12 rfl (fun _ _ _ _ _ _ h => wc_bipush X dX11_init_13 bi_16 h) dX11_init_15 dX11_init_17 ac_int rfl (fun U h => h) rfl (by decide) (by decide) (by decide) rfl (by decide) (by decide) 1 (by decide) rfl fl_X11_13 (fun _ => rfl) (fun _ => rfl) (Nat.le_of_ble_eq_true rfl) rfl (cz_i sh_179) ?_
  refine wi_arr (n := 180) (t0 := 1) (ty := .long) (x := (128, .inr (.inl (fun _ => 0)))) (fs' := [.ref (bB Γ + (178)), .ref (bB Γ + (179)), .ref (bB Γ + (180)), .null, .null, .null, .null, .null, .null, .null, .null, .null, .null, .int 0, .int 0, .int 0, .int 0, .null, .null, .null, .null, .null, .null, .null, .null, .null, .int 0, .null, .null, .null, .null, .null, .int 0, .null, .null, .null, .null, .null, .null, .int 0, .int 0, .null, .int 0, .null, .null, .null, .int 0, .int 0, .int 0, .int 0, .int 0, .null, .null, .int 0, .int 0, .long 0, .int 0, .null, .null, .int 0, .null, .null]) X hm (by omega) rfl in_X11 tyX11 tyX11_ok nmX11 dX11_init_20 rfl (fun _ _ _ _ _ _ h => wc_sipush X dX11_init_21 si_128 h) dX11_init_24 dX11_init_26 ac_long rfl (fun U h => h) rfl (by decide) (by decide) (by decide) rfl (by decide) (by decide) 2 (by decide) rfl fl_X11_16 (fun _ => rfl) (fun _ => rfl) (Nat.le_of_ble_eq_true rfl) rfl (cz_j sh_180) ?_
  refine wi_arr (n := 181) (t0 := 0) (ty := .int) (x := (16, .inl (fun _ => 0))) (fs' := [.ref (bB Γ + (178)), .ref (bB Γ + (179)), .ref (bB Γ + (180)), .ref (bB Γ + (181)), .null, .null, .null, .null, .null, .null, .null, .null, .null, .int 0, .int 0, .int 0, .int 0, .null, .null, .null, .null, .null, .null, .null, .null, .null, .int 0, .null, .null, .null, .null, .null, .int 0, .null, .null, .null, .null, .null, .null, .int 0, .int 0, .null, .int 0, .null, .null, .null, .int 0, .int 0, .int 0, .int 0, .int 0, .null, .null, .int 0, .int 0, .long 0, .int 0, .null, .null, .int 0, .null, .null]) X hm (by omega) rfl in_X11 tyX11 tyX11_ok nmX11 dX11_init_29 rfl (fun _ _ _ _ _ _ h => wc_bipush X dX11_init_30 bi_16 h) dX11_init_32 dX11_init_34 ac_int rfl (fun U h => h) rfl (by decide) (by decide) (by decide) rfl (by decide) (by decide) 3 (by decide) rfl fl_X11_20 (fun _ => rfl) (fun _ => rfl) (Nat.le_of_ble_eq_true rfl) rfl (cz_i sh_181) ?_
  refine wi_arr (n := 182) (t0 := 0) (ty := .int) (x := (16, .inl (fun _ => 0))) (fs' := [.ref (bB Γ + (178)), .ref (bB Γ + (179)), .ref (bB Γ + (180)), .ref (bB Γ + (181)), .ref (bB Γ + (182)), .null, .null, .null, .null, .null, .null, .null, .null, .int 0, .int 0, .int 0, .int 0, .null, .null, .null, .null, .null, .null, .null, .null, .null, .int 0, .null, .null, .null, .null, .null, .int 0, .null, .null, .null, .null, .null, .null, .int 0, .int 0, .null, .int 0, .null, .null, .null, .int 0, .int 0, .int 0, .int 0, .int 0, .null, .null, .int 0, .int 0, .long 0, .int 0, .null, .null, .int 0, .null, .null]) X hm (by omega) rfl in_X11 tyX11 tyX11_ok nmX11 dX11_init_37 rfl (fun _ _ _ _ _ _ h => wc_bipush X dX11_init_38 bi_16 h) dX11_init_40 dX11_init_42 ac_int rfl (fun U h => h) rfl (by decide) (by decide) (by decide) rfl (by decide) (by decide) 4 (by decide) rfl fl_X11_23 (fun _ => rfl) (fun _ => rfl) (Nat.le_of_ble_eq_true rfl) rfl (cz_i sh_182) ?_
  refine wi_arr (n := 183) (t0 := 2) (ty := .boolean) (x := (16, .inl (fun _ => 0))) (fs' := [.ref (bB Γ + (178)), .ref (bB Γ + (179)), .ref (bB Γ + (180)), .ref (bB Γ + (181)), .ref (bB Γ + (182)), .ref (bB Γ + (183)), .null, .null, .null, .null, .null, .null, .null, .int 0, .int 0, .int 0, .int 0, .null, .null, .null, .null, .null, .null, .null, .null, .null, .int 0, .null, .null, .null, .null, .null, .int 0, .null, .null, .null, .null, .null, .null, .int 0, .int 0, .null, .int 0, .null, .null, .null, .int 0, .int 0, .int 0, .int 0, .int 0, .null, .null, .int 0, .int 0, .long 0, .int 0, .null, .null, .int 0, .null, .null]) X hm (by omega) rfl in_X11 tyX11 tyX11_ok nmX11 dX11_init_45 rfl (fun _ _ _ _ _ _ h => wc_bipush X dX11_init_46 bi_16 h) dX11_init_48 dX11_init_50 ac_boolean rfl (fun U h => h) rfl (by decide) (by decide) (by decide) rfl (by decide) (by decide) 5 (by decide) rfl fl_X11_26 (fun _ => rfl) (fun _ => rfl) (Nat.le_of_ble_eq_true rfl) rfl (cz_z sh_183) ?_
  refine wi_arr (n := 184) (t0 := 0) (ty := .int) (x := (20, .inl (fun _ => 0))) (fs' := [.ref (bB Γ + (178)), .ref (bB Γ + (179)), .ref (bB Γ + (180)), .ref (bB Γ + (181)), .ref (bB Γ + (182)), .ref (bB Γ + (183)), .ref (bB Γ + (184)), .null, .null, .null, .null, .null, .null, .int 0, .int 0, .int 0, .int 0, .null, .null, .null, .null, .null, .null, .null, .null, .null, .int 0, .null, .null, .null, .null, .null, .int 0, .null, .null, .null, .null, .null, .null, .int 0, .int 0, .null, .int 0, .null, .null, .null, .int 0, .int 0, .int 0, .int 0, .int 0, .null, .null, .int 0, .int 0, .long 0, .int 0, .null, .null, .int 0, .null, .null]) X hm (by omega) rfl in_X11 tyX11 tyX11_ok nmX11 dX11_init_53 rfl (fun _ _ _ _ _ _ h => wc_bipush X dX11_init_54 bi_20 h) dX11_init_56 dX11_init_58 ac_int rfl (fun U h => h) rfl (by decide) (by decide) (by decide) rfl (by decide) (by decide) 6 (by decide) rfl fl_X11_30 (fun _ => rfl) (fun _ => rfl) (Nat.le_of_ble_eq_true rfl) rfl (cz_i sh_184) ?_
  refine wi_arr (n := 185) (t0 := 0) (ty := .int) (x := (20, .inl (fun _ => 0))) (fs' := [.ref (bB Γ + (178)), .ref (bB Γ + (179)), .ref (bB Γ + (180)), .ref (bB Γ + (181)), .ref (bB Γ + (182)), .ref (bB Γ + (183)), .ref (bB Γ + (184)), .ref (bB Γ + (185)), .null, .null, .null, .null, .null, .int 0, .int 0, .int 0, .int 0, .null, .null, .null, .null, .null, .null, .null, .null, .null, .int 0, .null, .null, .null, .null, .null, .int 0, .null, .null, .null, .null, .null, .null, .int 0, .int 0, .null, .int 0, .null, .null, .null, .int 0, .int 0, .int 0, .int 0, .int 0, .null, .null, .int 0, .int 0, .long 0, .int 0, .null, .null, .int 0, .null, .null]) X hm (by omega) rfl in_X11 tyX11 tyX11_ok nmX11 dX11_init_61 rfl (fun _ _ _ _ _ _ h => wc_bipush X dX11_init_62 bi_20 h) dX11_init_64 dX11_init_66 ac_int rfl (fun U h => h) rfl (by decide) (by decide) (by decide) rfl (by decide) (by decide) 7 (by decide) rfl fl_X11_33 (fun _ => rfl) (fun _ => rfl) (Nat.le_of_ble_eq_true rfl) rfl (cz_i sh_185) ?_
  refine wi_arr (n := 186) (t0 := 0) (ty := .int) (x := (20, .inl (fun _ => 0))) (fs' := [.ref (bB Γ + (178)), .ref (bB Γ + (179)), .ref (bB Γ + (180)), .ref (bB Γ + (181)), .ref (bB Γ + (182)), .ref (bB Γ + (183)), .ref (bB Γ + (184)), .ref (bB Γ + (185)), .ref (bB Γ + (186)), .null, .null, .null, .null, .int 0, .int 0, .int 0, .int 0, .null, .null, .null, .null, .null, .null, .null, .null, .null, .int 0, .null, .null, .null, .null, .null, .int 0, .null, .null, .null, .null, .null, .null, .int 0, .int 0, .null, .int 0, .null, .null, .null, .int 0, .int 0, .int 0, .int 0, .int 0, .null, .null, .int 0, .int 0, .long 0, .int 0, .null, .null, .int 0, .null, .null]) X hm (by omega) rfl in_X11 tyX11 tyX11_ok nmX11 dX11_init_69 rfl (fun _ _ _ _ _ _ h => wc_bipush X dX11_init_70 bi_20 h) dX11_init_72 dX11_init_74 ac_int rfl (fun U h => h) rfl (by decide) (by decide) (by decide) rfl (by decide) (by decide) 8 (by decide) rfl fl_X11_36 (fun _ => rfl) (fun _ => rfl) (Nat.le_of_ble_eq_true rfl) rfl (cz_i sh_186) ?_
  refine wi_arr (n := 187) (t0 := 0) (ty := .int) (x := (280, .inl (fun _ => 0))) (fs' := [.ref (bB Γ + (178)), .ref (bB Γ + (179)), .ref (bB Γ + (180)), .ref (bB Γ + (181)), .ref (bB Γ + (182)), .ref (bB Γ + (183)), .ref (bB Γ + (184)), .ref (bB Γ + (185)), .ref (bB Γ + (186)), .ref (bB Γ + (187)), .null, .null, .null, .int 0, .int 0, .int 0, .int 0, .null, .null, .null, .null, .null, .null, .null, .null, .null, .int 0, .null, .null, .null, .null, .null, .int 0, .null, .null, .null, .null, .null, .null, .int 0, .int 0, .null, .int 0, .null, .null, .null, .int 0, .int 0, .int 0, .int 0, .int 0, .null, .null, .int 0, .int 0, .long 0, .int 0, .null, .null, .int 0, .null, .null]) X hm (by omega) rfl in_X11 tyX11 tyX11_ok nmX11 dX11_init_77 rfl (fun _ _ _ _ _ _ h => wc_sipush X dX11_init_78 si_280 h) dX11_init_81 dX11_init_83 ac_int rfl (fun U h => h) rfl (by decide) (by decide) (by decide) rfl (by decide) (by decide) 9 (by decide) rfl fl_X11_39 (fun _ => rfl) (fun _ => rfl) (Nat.le_of_ble_eq_true rfl) rfl (cz_i sh_187) ?_
  refine wi_arr (n := 188) (t0 := 0) (ty := .int) (x := (280, .inl (fun _ => 0))) (fs' := [.ref (bB Γ + (178)), .ref (bB Γ + (179)), .ref (bB Γ + (180)), .ref (bB Γ + (181)), .ref (bB Γ + (182)), .ref (bB Γ + (183)), .ref (bB Γ + (184)), .ref (bB Γ + (185)), .ref (bB Γ + (186)), .ref (bB Γ + (187)), .ref (bB Γ + (188)), .null, .null, .int 0, .int 0, .int 0, .int 0, .null, .null, .null, .null, .null, .null, .null, .null, .null, .int 0, .null, .null, .null, .null, .null, .int 0, .null, .null, .null, .null, .null, .null, .int 0, .int 0, .null, .int 0, .null, .null, .null, .int 0, .int 0, .int 0, .int 0, .int 0, .null, .null, .int 0, .int 0, .long 0, .int 0, .null, .null, .int 0, .null, .null]) X hm (by omega) rfl in_X11 tyX11 tyX11_ok nmX11 dX11_init_86 rfl (fun _ _ _ _ _ _ h => wc_sipush X dX11_init_87 si_280 h) dX11_init_90 dX11_init_92 ac_int rfl (fun U h => h) rfl (by decide) (by decide) (by decide) rfl (by decide) (by decide) 10 (by decide) rfl fl_X11_42 (fun _ => rfl) (fun _ => rfl) (Nat.le_of_ble_eq_true rfl) rfl (cz_i sh_188) ?_
  refine wi_arr (n := 189) (t0 := 0) (ty := .int) (x := (1120, .inl (fun _ => 0))) (fs' := [.ref (bB Γ + (178)), .ref (bB Γ + (179)), .ref (bB Γ + (180)), .ref (bB Γ + (181)), .ref (bB Γ + (182)), .ref (bB Γ + (183)), .ref (bB Γ + (184)), .ref (bB Γ + (185)), .ref (bB Γ + (186)), .ref (bB Γ + (187)), .ref (bB Γ + (188)), .ref (bB Γ + (189)), .null, .int 0, .int 0, .int 0, .int 0, .null, .null, .null, .null, .null, .null, .null, .null, .null, .int 0, .null, .null, .null, .null, .null, .int 0, .null, .null, .null, .null, .null, .null, .int 0, .int 0, .null, .int 0, .null, .null, .null, .int 0, .int 0, .int 0, .int 0, .int 0, .null, .null, .int 0, .int 0, .long 0, .int 0, .null, .null, .int 0, .null, .null]) X hm (by omega) rfl in_X11 tyX11 tyX11_ok nmX11 dX11_init_95 rfl (fun _ _ _ _ _ _ h => wc_sipush X dX11_init_96 si_1120 h) dX11_init_99 dX11_init_101 ac_int rfl (fun U h => h) rfl (by decide) (by decide) (by decide) rfl (by decide) (by decide) 11 (by decide) rfl fl_X11_45 (fun _ => rfl) (fun _ => rfl) (Nat.le_of_ble_eq_true rfl) rfl (cz_i sh_189) ?_
  refine wi_arr (n := 190) (t0 := 0) (ty := .int) (x := (1120, .inl (fun _ => 0))) (fs' := [.ref (bB Γ + (178)), .ref (bB Γ + (179)), .ref (bB Γ + (180)), .ref (bB Γ + (181)), .ref (bB Γ + (182)), .ref (bB Γ + (183)), .ref (bB Γ + (184)), .ref (bB Γ + (185)), .ref (bB Γ + (186)), .ref (bB Γ + (187)), .ref (bB Γ + (188)), .ref (bB Γ + (189)), .ref (bB Γ + (190)), .int 0, .int 0, .int 0, .int 0, .null, .null, .null, .null, .null, .null, .null, .null, .null, .int 0, .null, .null, .null, .null, .null, .int 0, .null, .null, .null, .null, .null, .null, .int 0, .int 0, .null, .int 0, .null, .null, .null, .int 0, .int 0, .int 0, .int 0, .int 0, .null, .null, .int 0, .int 0, .long 0, .int 0, .null, .null, .int 0, .null, .null]) X hm (by omega) rfl in_X11 tyX11 tyX11_ok nmX11 dX11_init_104 rfl (fun _ _ _ _ _ _ h => wc_sipush X dX11_init_105 si_1120 h) dX11_init_108 dX11_init_110 ac_int rfl (fun U h => h) rfl (by decide) (by decide) (by decide) rfl (by decide) (by decide) 12 (by decide) rfl fl_X11_48 (fun _ => rfl) (fun _ => rfl) (Nat.le_of_ble_eq_true rfl) rfl (cz_i sh_190) ?_
  refine wi_arr (n := 191) (t0 := 0) (ty := .int) (x := (57, .inl (fun _ => 0))) (fs' := [.ref (bB Γ + (178)), .ref (bB Γ + (179)), .ref (bB Γ + (180)), .ref (bB Γ + (181)), .ref (bB Γ + (182)), .ref (bB Γ + (183)), .ref (bB Γ + (184)), .ref (bB Γ + (185)), .ref (bB Γ + (186)), .ref (bB Γ + (187)), .ref (bB Γ + (188)), .ref (bB Γ + (189)), .ref (bB Γ + (190)), .int 0, .int 0, .int 0, .int 0, .ref (bB Γ + (191)), .null, .null, .null, .null, .null, .null, .null, .null, .int 0, .null, .null, .null, .null, .null, .int 0, .null, .null, .null, .null, .null, .null, .int 0, .int 0, .null, .int 0, .null, .null, .null, .int 0, .int 0, .int 0, .int 0, .int 0, .null, .null, .int 0, .int 0, .long 0, .int 0, .null, .null, .int 0, .null, .null]) X hm (by omega) rfl in_X11 tyX11 tyX11_ok nmX11 dX11_init_113 rfl (fun _ _ _ _ _ _ h => wc_bipush X dX11_init_114 bi_57 h) dX11_init_116 dX11_init_118 ac_int rfl (fun U h => h) rfl (by decide) (by decide) (by decide) rfl (by decide) (by decide) 17 (by decide) rfl fl_X11_51 (fun _ => rfl) (fun _ => rfl) (Nat.le_of_ble_eq_true rfl) rfl (cz_i sh_191) ?_
  refine wi_arr (n := 192) (t0 := 0) (ty := .int) (x := (57, .inl (fun _ => 0))) (fs' := [.ref (bB Γ + (178)), .ref (bB Γ + (179)), .ref (bB Γ + (180)), .ref (bB Γ + (181)), .ref (bB Γ + (182)), .ref (bB Γ + (183)), .ref (bB Γ + (184)), .ref (bB Γ + (185)), .ref (bB Γ + (186)), .ref (bB Γ + (187)), .ref (bB Γ + (188)), .ref (bB Γ + (189)), .ref (bB Γ + (190)), .int 0, .int 0, .int 0, .int 0, .ref (bB Γ + (191)), .ref (bB Γ + (192)), .null, .null, .null, .null, .null, .null, .null, .int 0, .null, .null, .null, .null, .null, .int 0, .null, .null, .null, .null, .null, .null, .int 0, .int 0, .null, .int 0, .null, .null, .null, .int 0, .int 0, .int 0, .int 0, .int 0, .null, .null, .int 0, .int 0, .long 0, .int 0, .null, .null, .int 0, .null, .null]) X hm (by omega) rfl in_X11 tyX11 tyX11_ok nmX11 dX11_init_121 rfl (fun _ _ _ _ _ _ h => wc_bipush X dX11_init_122 bi_57 h) dX11_init_124 dX11_init_126 ac_int rfl (fun U h => h) rfl (by decide) (by decide) (by decide) rfl (by decide) (by decide) 18 (by decide) rfl fl_X11_54 (fun _ => rfl) (fun _ => rfl) (Nat.le_of_ble_eq_true rfl) rfl (cz_i sh_192) ?_
  refine wi_arr (n := 193) (t0 := 1) (ty := .long) (x := (57, .inr (.inl (fun _ => 0)))) (fs' := [.ref (bB Γ + (178)), .ref (bB Γ + (179)), .ref (bB Γ + (180)), .ref (bB Γ + (181)), .ref (bB Γ + (182)), .ref (bB Γ + (183)), .ref (bB Γ + (184)), .ref (bB Γ + (185)), .ref (bB Γ + (186)), .ref (bB Γ + (187)), .ref (bB Γ + (188)), .ref (bB Γ + (189)), .ref (bB Γ + (190)), .int 0, .int 0, .int 0, .int 0, .ref (bB Γ + (191)), .ref (bB Γ + (192)), .ref (bB Γ + (193)), .null, .null, .null, .null, .null, .null, .int 0, .null, .null, .null, .null, .null, .int 0, .null, .null, .null, .null, .null, .null, .int 0, .int 0, .null, .int 0, .null, .null, .null, .int 0, .int 0, .int 0, .int 0, .int 0, .null, .null, .int 0, .int 0, .long 0, .int 0, .null, .null, .int 0, .null, .null]) X hm (by omega) rfl in_X11 tyX11 tyX11_ok nmX11 dX11_init_129 rfl (fun _ _ _ _ _ _ h => wc_bipush X dX11_init_130 bi_57 h) dX11_init_132 dX11_init_134 ac_long rfl (fun U h => h) rfl (by decide) (by decide) (by decide) rfl (by decide) (by decide) 19 (by decide) rfl fl_X11_57 (fun _ => rfl) (fun _ => rfl) (Nat.le_of_ble_eq_true rfl) rfl (cz_j sh_193) ?_
  refine wi_arr (n := 194) (t0 := 0) (ty := .int) (x := (228, .inl (fun _ => 0))) (fs' := [.ref (bB Γ + (178)), .ref (bB Γ + (179)), .ref (bB Γ + (180)), .ref (bB Γ + (181)), .ref (bB Γ + (182)), .ref (bB Γ + (183)), .ref (bB Γ + (184)), .ref (bB Γ + (185)), .ref (bB Γ + (186)), .ref (bB Γ + (187)), .ref (bB Γ + (188)), .ref (bB Γ + (189)), .ref (bB Γ + (190)), .int 0, .int 0, .int 0, .int 0, .ref (bB Γ + (191)), .ref (bB Γ + (192)), .ref (bB Γ + (193)), .ref (bB Γ + (194)), .null, .null, .null, .null, .null, .int 0, .null, .null, .null, .null, .null, .int 0, .null, .null, .null, .null, .null, .null, .int 0, .int 0, .null, .int 0, .null, .null, .null, .int 0, .int 0, .int 0, .int 0, .int 0, .null, .null, .int 0, .int 0, .long 0, .int 0, .null, .null, .int 0, .null, .null]) X hm (by omega) rfl in_X11 tyX11 tyX11_ok nmX11 dX11_init_137 rfl (fun _ _ _ _ _ _ h => wc_sipush X dX11_init_138 si_228 h) dX11_init_141 dX11_init_143 ac_int rfl (fun U h => h) rfl (by decide) (by decide) (by decide) rfl (by decide) (by decide) 20 (by decide) rfl fl_X11_60 (fun _ => rfl) (fun _ => rfl) (Nat.le_of_ble_eq_true rfl) rfl (cz_i sh_194) ?_
  refine wi_arr (n := 195) (t0 := 2) (ty := .boolean) (x := (256, .inl (fun _ => 0))) (fs' := [.ref (bB Γ + (178)), .ref (bB Γ + (179)), .ref (bB Γ + (180)), .ref (bB Γ + (181)), .ref (bB Γ + (182)), .ref (bB Γ + (183)), .ref (bB Γ + (184)), .ref (bB Γ + (185)), .ref (bB Γ + (186)), .ref (bB Γ + (187)), .ref (bB Γ + (188)), .ref (bB Γ + (189)), .ref (bB Γ + (190)), .int 0, .int 0, .int 0, .int 0, .ref (bB Γ + (191)), .ref (bB Γ + (192)), .ref (bB Γ + (193)), .ref (bB Γ + (194)), .ref (bB Γ + (195)), .null, .null, .null, .null, .int 0, .null, .null, .null, .null, .null, .int 0, .null, .null, .null, .null, .null, .null, .int 0, .int 0, .null, .int 0, .null, .null, .null, .int 0, .int 0, .int 0, .int 0, .int 0, .null, .null, .int 0, .int 0, .long 0, .int 0, .null, .null, .int 0, .null, .null]) X hm (by omega) rfl in_X11 tyX11 tyX11_ok nmX11 dX11_init_146 rfl (fun _ _ _ _ _ _ h => wc_sipush X dX11_init_147 si_256 h) dX11_init_150 dX11_init_152 ac_boolean rfl (fun U h => h) rfl (by decide) (by decide) (by decide) rfl (by decide) (by decide) 21 (by decide) rfl fl_X11_63 (fun _ => rfl) (fun _ => rfl) (Nat.le_of_ble_eq_true rfl) rfl (cz_z sh_195) ?_
  refine wi_arr (n := 196) (t0 := 0) (ty := .int) (x := (16, .inl (fun _ => 0))) (fs' := [.ref (bB Γ + (178)), .ref (bB Γ + (179)), .ref (bB Γ + (180)), .ref (bB Γ + (181)), .ref (bB Γ + (182)), .ref (bB Γ + (183)), .ref (bB Γ + (184)), .ref (bB Γ + (185)), .ref (bB Γ + (186)), .ref (bB Γ + (187)), .ref (bB Γ + (188)), .ref (bB Γ + (189)), .ref (bB Γ + (190)), .int 0, .int 0, .int 0, .int 0, .ref (bB Γ + (191)), .ref (bB Γ + (192)), .ref (bB Γ + (193)), .ref (bB Γ + (194)), .ref (bB Γ + (195)), .ref (bB Γ + (196)), .null, .null, .null, .int 0, .null, .null, .null, .null, .null, .int 0, .null, .null, .null, .null, .null, .null, .int 0, .int 0, .null, .int 0, .null, .null, .null, .int 0, .int 0, .int 0, .int 0, .int 0, .null, .null, .int 0, .int 0, .long 0, .int 0, .null, .null, .int 0, .null, .null]) X hm (by omega) rfl in_X11 tyX11 tyX11_ok nmX11 dX11_init_155 rfl (fun _ _ _ _ _ _ h => wc_bipush X dX11_init_156 bi_16 h) dX11_init_158 dX11_init_160 ac_int rfl (fun U h => h) rfl (by decide) (by decide) (by decide) rfl (by decide) (by decide) 22 (by decide) rfl fl_X11_66 (fun _ => rfl) (fun _ => rfl) (Nat.le_of_ble_eq_true rfl) rfl (cz_i sh_196) ?_
  refine wi_arr (n := 197) (t0 := 1) (ty := .long) (x := (280, .inr (.inl (fun _ => 0)))) (fs' := [.ref (bB Γ + (178)), .ref (bB Γ + (179)), .ref (bB Γ + (180)), .ref (bB Γ + (181)), .ref (bB Γ + (182)), .ref (bB Γ + (183)), .ref (bB Γ + (184)), .ref (bB Γ + (185)), .ref (bB Γ + (186)), .ref (bB Γ + (187)), .ref (bB Γ + (188)), .ref (bB Γ + (189)), .ref (bB Γ + (190)), .int 0, .int 0, .int 0, .int 0, .ref (bB Γ + (191)), .ref (bB Γ + (192)), .ref (bB Γ + (193)), .ref (bB Γ + (194)), .ref (bB Γ + (195)), .ref (bB Γ + (196)), .ref (bB Γ + (197)), .null, .null, .int 0, .null, .null, .null, .null, .null, .int 0, .null, .null, .null, .null, .null, .null, .int 0, .int 0, .null, .int 0, .null, .null, .null, .int 0, .int 0, .int 0, .int 0, .int 0, .null, .null, .int 0, .int 0, .long 0, .int 0, .null, .null, .int 0, .null, .null]) X hm (by omega) rfl in_X11 tyX11 tyX11_ok nmX11 dX11_init_163 rfl (fun _ _ _ _ _ _ h => wc_sipush X dX11_init_164 si_280 h) dX11_init_167 dX11_init_169 ac_long rfl (fun U h => h) rfl (by decide) (by decide) (by decide) rfl (by decide) (by decide) 23 (by decide) rfl fl_X11_69 (fun _ => rfl) (fun _ => rfl) (Nat.le_of_ble_eq_true rfl) rfl (cz_j sh_197) ?_
  refine wi_arr (n := 198) (t0 := 0) (ty := .int) (x := (4, .inl (fun _ => 0))) (fs' := [.ref (bB Γ + (178)), .ref (bB Γ + (179)), .ref (bB Γ + (180)), .ref (bB Γ + (181)), .ref (bB Γ + (182)), .ref (bB Γ + (183)), .ref (bB Γ + (184)), .ref (bB Γ + (185)), .ref (bB Γ + (186)), .ref (bB Γ + (187)), .ref (bB Γ + (188)), .ref (bB Γ + (189)), .ref (bB Γ + (190)), .int 0, .int 0, .int 0, .int 0, .ref (bB Γ + (191)), .ref (bB Γ + (192)), .ref (bB Γ + (193)), .ref (bB Γ + (194)), .ref (bB Γ + (195)), .ref (bB Γ + (196)), .ref (bB Γ + (197)), .ref (bB Γ + (198)), .null, .int 0, .null, .null, .null, .null, .null, .int 0, .null, .null, .null, .null, .null, .null, .int 0, .int 0, .null, .int 0, .null, .null, .null, .int 0, .int 0, .int 0, .int 0, .int 0, .null, .null, .int 0, .int 0, .long 0, .int 0, .null, .null, .int 0, .null, .null]) X hm (by omega) rfl in_X11 tyX11 tyX11_ok nmX11 dX11_init_172 rfl (fun _ _ _ _ _ _ h => wc_iconst X dX11_init_173 ic_4 h) dX11_init_174 dX11_init_176 ac_int rfl (fun U h => h) rfl (by decide) (by decide) (by decide) rfl (by decide) (by decide) 24 (by decide) rfl fl_X11_72 (fun _ => rfl) (fun _ => rfl) (Nat.le_of_ble_eq_true rfl) rfl (cz_i sh_198) ?_
  refine wi_arr (n := 199) (t0 := 0) (ty := .int) (x := (4, .inl (fun _ => 0))) (fs' := [.ref (bB Γ + (178)), .ref (bB Γ + (179)), .ref (bB Γ + (180)), .ref (bB Γ + (181)), .ref (bB Γ + (182)), .ref (bB Γ + (183)), .ref (bB Γ + (184)), .ref (bB Γ + (185)), .ref (bB Γ + (186)), .ref (bB Γ + (187)), .ref (bB Γ + (188)), .ref (bB Γ + (189)), .ref (bB Γ + (190)), .int 0, .int 0, .int 0, .int 0, .ref (bB Γ + (191)), .ref (bB Γ + (192)), .ref (bB Γ + (193)), .ref (bB Γ + (194)), .ref (bB Γ + (195)), .ref (bB Γ + (196)), .ref (bB Γ + (197)), .ref (bB Γ + (198)), .ref (bB Γ + (199)), .int 0, .null, .null, .null, .null, .null, .int 0, .null, .null, .null, .null, .null, .null, .int 0, .int 0, .null, .int 0, .null, .null, .null, .int 0, .int 0, .int 0, .int 0, .int 0, .null, .null, .int 0, .int 0, .long 0, .int 0, .null, .null, .int 0, .null, .null]) X hm (by omega) rfl in_X11 tyX11 tyX11_ok nmX11 dX11_init_179 rfl (fun _ _ _ _ _ _ h => wc_iconst X dX11_init_180 ic_4 h) dX11_init_181 dX11_init_183 ac_int rfl (fun U h => h) rfl (by decide) (by decide) (by decide) rfl (by decide) (by decide) 25 (by decide) rfl fl_X11_75 (fun _ => rfl) (fun _ => rfl) (Nat.le_of_ble_eq_true rfl) rfl (cz_i sh_199) ?_
  refine wi_arr (n := 200) (t0 := 1) (ty := .long) (x := (1736, .inr (.inl (fun _ => 0)))) (fs' := [.ref (bB Γ + (178)), .ref (bB Γ + (179)), .ref (bB Γ + (180)), .ref (bB Γ + (181)), .ref (bB Γ + (182)), .ref (bB Γ + (183)), .ref (bB Γ + (184)), .ref (bB Γ + (185)), .ref (bB Γ + (186)), .ref (bB Γ + (187)), .ref (bB Γ + (188)), .ref (bB Γ + (189)), .ref (bB Γ + (190)), .int 0, .int 0, .int 0, .int 0, .ref (bB Γ + (191)), .ref (bB Γ + (192)), .ref (bB Γ + (193)), .ref (bB Γ + (194)), .ref (bB Γ + (195)), .ref (bB Γ + (196)), .ref (bB Γ + (197)), .ref (bB Γ + (198)), .ref (bB Γ + (199)), .int 0, .ref (bB Γ + (200)), .null, .null, .null, .null, .int 0, .null, .null, .null, .null, .null, .null, .int 0, .int 0, .null, .int 0, .null, .null, .null, .int 0, .int 0, .int 0, .int 0, .int 0, .null, .null, .int 0, .int 0, .long 0, .int 0, .null, .null, .int 0, .null, .null]) X hm (by omega) rfl in_X11 tyX11 tyX11_ok nmX11 dX11_init_186 rfl (fun _ _ _ _ _ _ h => wc_sipush X dX11_init_187 si_1736 h) dX11_init_190 dX11_init_192 ac_long rfl (fun U h => h) rfl (by decide) (by decide) (by decide) rfl (by decide) (by decide) 27 (by decide) rfl fl_X11_78 (fun _ => rfl) (fun _ => rfl) (Nat.le_of_ble_eq_true rfl) rfl (cz_j sh_200) ?_
  refine wi_arr (n := 201) (t0 := 0) (ty := .int) (x := (256, .inl (fun _ => 0))) (fs' := [.ref (bB Γ + (178)), .ref (bB Γ + (179)), .ref (bB Γ + (180)), .ref (bB Γ + (181)), .ref (bB Γ + (182)), .ref (bB Γ + (183)), .ref (bB Γ + (184)), .ref (bB Γ + (185)), .ref (bB Γ + (186)), .ref (bB Γ + (187)), .ref (bB Γ + (188)), .ref (bB Γ + (189)), .ref (bB Γ + (190)), .int 0, .int 0, .int 0, .int 0, .ref (bB Γ + (191)), .ref (bB Γ + (192)), .ref (bB Γ + (193)), .ref (bB Γ + (194)), .ref (bB Γ + (195)), .ref (bB Γ + (196)), .ref (bB Γ + (197)), .ref (bB Γ + (198)), .ref (bB Γ + (199)), .int 0, .ref (bB Γ + (200)), .ref (bB Γ + (201)), .null, .null, .null, .int 0, .null, .null, .null, .null, .null, .null, .int 0, .int 0, .null, .int 0, .null, .null, .null, .int 0, .int 0, .int 0, .int 0, .int 0, .null, .null, .int 0, .int 0, .long 0, .int 0, .null, .null, .int 0, .null, .null]) X hm (by omega) rfl in_X11 tyX11 tyX11_ok nmX11 dX11_init_195 rfl (fun _ _ _ _ _ _ h => wc_sipush X dX11_init_196 si_256 h) dX11_init_199 dX11_init_201 ac_int rfl (fun U h => h) rfl (by decide) (by decide) (by decide) rfl (by decide) (by decide) 28 (by decide) rfl fl_X11_81 (fun _ => rfl) (fun _ => rfl) (Nat.le_of_ble_eq_true rfl) rfl (cz_i sh_201) ?_
  refine wi_arr (n := 202) (t0 := 0) (ty := .int) (x := (256, .inl (fun _ => 0))) (fs' := [.ref (bB Γ + (178)), .ref (bB Γ + (179)), .ref (bB Γ + (180)), .ref (bB Γ + (181)), .ref (bB Γ + (182)), .ref (bB Γ + (183)), .ref (bB Γ + (184)), .ref (bB Γ + (185)), .ref (bB Γ + (186)), .ref (bB Γ + (187)), .ref (bB Γ + (188)), .ref (bB Γ + (189)), .ref (bB Γ + (190)), .int 0, .int 0, .int 0, .int 0, .ref (bB Γ + (191)), .ref (bB Γ + (192)), .ref (bB Γ + (193)), .ref (bB Γ + (194)), .ref (bB Γ + (195)), .ref (bB Γ + (196)), .ref (bB Γ + (197)), .ref (bB Γ + (198)), .ref (bB Γ + (199)), .int 0, .ref (bB Γ + (200)), .ref (bB Γ + (201)), .ref (bB Γ + (202)), .null, .null, .int 0, .null, .null, .null, .null, .null, .null, .int 0, .int 0, .null, .int 0, .null, .null, .null, .int 0, .int 0, .int 0, .int 0, .int 0, .null, .null, .int 0, .int 0, .long 0, .int 0, .null, .null, .int 0, .null, .null]) X hm (by omega) rfl in_X11 tyX11 tyX11_ok nmX11 dX11_init_204 rfl (fun _ _ _ _ _ _ h => wc_sipush X dX11_init_205 si_256 h) dX11_init_208 dX11_init_210 ac_int rfl (fun U h => h) rfl (by decide) (by decide) (by decide) rfl (by decide) (by decide) 29 (by decide) rfl fl_X11_84 (fun _ => rfl) (fun _ => rfl) (Nat.le_of_ble_eq_true rfl) rfl (cz_i sh_202) ?_
  refine wi_arr (n := 203) (t0 := 1) (ty := .long) (x := (256, .inr (.inl (fun _ => 0)))) (fs' := [.ref (bB Γ + (178)), .ref (bB Γ + (179)), .ref (bB Γ + (180)), .ref (bB Γ + (181)), .ref (bB Γ + (182)), .ref (bB Γ + (183)), .ref (bB Γ + (184)), .ref (bB Γ + (185)), .ref (bB Γ + (186)), .ref (bB Γ + (187)), .ref (bB Γ + (188)), .ref (bB Γ + (189)), .ref (bB Γ + (190)), .int 0, .int 0, .int 0, .int 0, .ref (bB Γ + (191)), .ref (bB Γ + (192)), .ref (bB Γ + (193)), .ref (bB Γ + (194)), .ref (bB Γ + (195)), .ref (bB Γ + (196)), .ref (bB Γ + (197)), .ref (bB Γ + (198)), .ref (bB Γ + (199)), .int 0, .ref (bB Γ + (200)), .ref (bB Γ + (201)), .ref (bB Γ + (202)), .ref (bB Γ + (203)), .null, .int 0, .null, .null, .null, .null, .null, .null, .int 0, .int 0, .null, .int 0, .null, .null, .null, .int 0, .int 0, .int 0, .int 0, .int 0, .null, .null, .int 0, .int 0, .long 0, .int 0, .null, .null, .int 0, .null, .null]) X hm (by omega) rfl in_X11 tyX11 tyX11_ok nmX11 dX11_init_213 rfl (fun _ _ _ _ _ _ h => wc_sipush X dX11_init_214 si_256 h) dX11_init_217 dX11_init_219 ac_long rfl (fun U h => h) rfl (by decide) (by decide) (by decide) rfl (by decide) (by decide) 30 (by decide) rfl fl_X11_87 (fun _ => rfl) (fun _ => rfl) (Nat.le_of_ble_eq_true rfl) rfl (cz_j sh_203) ?_
  refine wi_arr (n := 204) (t0 := 2) (ty := .boolean) (x := (256, .inl (fun _ => 0))) (fs' := [.ref (bB Γ + (178)), .ref (bB Γ + (179)), .ref (bB Γ + (180)), .ref (bB Γ + (181)), .ref (bB Γ + (182)), .ref (bB Γ + (183)), .ref (bB Γ + (184)), .ref (bB Γ + (185)), .ref (bB Γ + (186)), .ref (bB Γ + (187)), .ref (bB Γ + (188)), .ref (bB Γ + (189)), .ref (bB Γ + (190)), .int 0, .int 0, .int 0, .int 0, .ref (bB Γ + (191)), .ref (bB Γ + (192)), .ref (bB Γ + (193)), .ref (bB Γ + (194)), .ref (bB Γ + (195)), .ref (bB Γ + (196)), .ref (bB Γ + (197)), .ref (bB Γ + (198)), .ref (bB Γ + (199)), .int 0, .ref (bB Γ + (200)), .ref (bB Γ + (201)), .ref (bB Γ + (202)), .ref (bB Γ + (203)), .ref (bB Γ + (204)), .int 0, .null, .null, .null, .null, .null, .null, .int 0, .int 0, .null, .int 0, .null, .null, .null, .int 0, .int 0, .int 0, .int 0, .int 0, .null, .null, .int 0, .int 0, .long 0, .int 0, .null, .null, .int 0, .null, .null]) X hm (by omega) rfl in_X11 tyX11 tyX11_ok nmX11 dX11_init_222 rfl (fun _ _ _ _ _ _ h => wc_sipush X dX11_init_223 si_256 h) dX11_init_226 dX11_init_228 ac_boolean rfl (fun U h => h) rfl (by decide) (by decide) (by decide) rfl (by decide) (by decide) 31 (by decide) rfl fl_X11_90 (fun _ => rfl) (fun _ => rfl) (Nat.le_of_ble_eq_true rfl) rfl (cz_z sh_204) ?_
  refine wi_arr (n := 205) (t0 := 0) (ty := .int) (x := (512, .inl (fun _ => 0))) (fs' := [.ref (bB Γ + (178)), .ref (bB Γ + (179)), .ref (bB Γ + (180)), .ref (bB Γ + (181)), .ref (bB Γ + (182)), .ref (bB Γ + (183)), .ref (bB Γ + (184)), .ref (bB Γ + (185)), .ref (bB Γ + (186)), .ref (bB Γ + (187)), .ref (bB Γ + (188)), .ref (bB Γ + (189)), .ref (bB Γ + (190)), .int 0, .int 0, .int 0, .int 0, .ref (bB Γ + (191)), .ref (bB Γ + (192)), .ref (bB Γ + (193)), .ref (bB Γ + (194)), .ref (bB Γ + (195)), .ref (bB Γ + (196)), .ref (bB Γ + (197)), .ref (bB Γ + (198)), .ref (bB Γ + (199)), .int 0, .ref (bB Γ + (200)), .ref (bB Γ + (201)), .ref (bB Γ + (202)), .ref (bB Γ + (203)), .ref (bB Γ + (204)), .int 0, .ref (bB Γ + (205)), .null, .null, .null, .null, .null, .int 0, .int 0, .null, .int 0, .null, .null, .null, .int 0, .int 0, .int 0, .int 0, .int 0, .null, .null, .int 0, .int 0, .long 0, .int 0, .null, .null, .int 0, .null, .null]) X hm (by omega) rfl in_X11 tyX11 tyX11_ok nmX11 dX11_init_231 rfl (fun _ _ _ _ _ _ h => wc_sipush X dX11_init_232 si_512 h) dX11_init_235 dX11_init_237 ac_int rfl (fun U h => h) rfl (by decide) (by decide) (by decide) rfl (by decide) (by decide) 33 (by decide) rfl fl_X11_93 (fun _ => rfl) (fun _ => rfl) (Nat.le_of_ble_eq_true rfl) rfl (cz_i sh_205) ?_
  refine wi_arr (n := 206) (t0 := 0) (ty := .int) (x := (512, .inl (fun _ => 0))) (fs' := [.ref (bB Γ + (178)), .ref (bB Γ + (179)), .ref (bB Γ + (180)), .ref (bB Γ + (181)), .ref (bB Γ + (182)), .ref (bB Γ + (183)), .ref (bB Γ + (184)), .ref (bB Γ + (185)), .ref (bB Γ + (186)), .ref (bB Γ + (187)), .ref (bB Γ + (188)), .ref (bB Γ + (189)), .ref (bB Γ + (190)), .int 0, .int 0, .int 0, .int 0, .ref (bB Γ + (191)), .ref (bB Γ + (192)), .ref (bB Γ + (193)), .ref (bB Γ + (194)), .ref (bB Γ + (195)), .ref (bB Γ + (196)), .ref (bB Γ + (197)), .ref (bB Γ + (198)), .ref (bB Γ + (199)), .int 0, .ref (bB Γ + (200)), .ref (bB Γ + (201)), .ref (bB Γ + (202)), .ref (bB Γ + (203)), .ref (bB Γ + (204)), .int 0, .ref (bB Γ + (205)), .ref (bB Γ + (206)), .null, .null, .null, .null, .int 0, .int 0, .null, .int 0, .null, .null, .null, .int 0, .int 0, .int 0, .int 0, .int 0, .null, .null, .int 0, .int 0, .long 0, .int 0, .null, .null, .int 0, .null, .null]) X hm (by omega) rfl in_X11 tyX11 tyX11_ok nmX11 dX11_init_240 rfl (fun _ _ _ _ _ _ h => wc_sipush X dX11_init_241 si_512 h) dX11_init_244 dX11_init_246 ac_int rfl (fun U h => h) rfl (by decide) (by decide) (by decide) rfl (by decide) (by decide) 34 (by decide) rfl fl_X11_96 (fun _ => rfl) (fun _ => rfl) (Nat.le_of_ble_eq_true rfl) rfl (cz_i sh_206) ?_
  refine wi_arr (n := 207) (t0 := 0) (ty := .int) (x := (2048, .inl (fun _ => 0))) (fs' := [.ref (bB Γ + (178)), .ref (bB Γ + (179)), .ref (bB Γ + (180)), .ref (bB Γ + (181)), .ref (bB Γ + (182)), .ref (bB Γ + (183)), .ref (bB Γ + (184)), .ref (bB Γ + (185)), .ref (bB Γ + (186)), .ref (bB Γ + (187)), .ref (bB Γ + (188)), .ref (bB Γ + (189)), .ref (bB Γ + (190)), .int 0, .int 0, .int 0, .int 0, .ref (bB Γ + (191)), .ref (bB Γ + (192)), .ref (bB Γ + (193)), .ref (bB Γ + (194)), .ref (bB Γ + (195)), .ref (bB Γ + (196)), .ref (bB Γ + (197)), .ref (bB Γ + (198)), .ref (bB Γ + (199)), .int 0, .ref (bB Γ + (200)), .ref (bB Γ + (201)), .ref (bB Γ + (202)), .ref (bB Γ + (203)), .ref (bB Γ + (204)), .int 0, .ref (bB Γ + (205)), .ref (bB Γ + (206)), .ref (bB Γ + (207)), .null, .null, .null, .int 0, .int 0, .null, .int 0, .null, .null, .null, .int 0, .int 0, .int 0, .int 0, .int 0, .null, .null, .int 0, .int 0, .long 0, .int 0, .null, .null, .int 0, .null, .null]) X hm (by omega) rfl in_X11 tyX11 tyX11_ok nmX11 dX11_init_249 rfl (fun _ _ _ _ _ _ h => wc_sipush X dX11_init_250 si_2048 h) dX11_init_253 dX11_init_255 ac_int rfl (fun U h => h) rfl (by decide) (by decide) (by decide) rfl (by decide) (by decide) 35 (by decide) rfl fl_X11_99 (fun _ => rfl) (fun _ => rfl) (Nat.le_of_ble_eq_true rfl) rfl (cz_i sh_207) ?_
  refine wi_arr (n := 208) (t0 := 2) (ty := .boolean) (x := (512, .inl (fun _ => 0))) (fs' := [.ref (bB Γ + (178)), .ref (bB Γ + (179)), .ref (bB Γ + (180)), .ref (bB Γ + (181)), .ref (bB Γ + (182)), .ref (bB Γ + (183)), .ref (bB Γ + (184)), .ref (bB Γ + (185)), .ref (bB Γ + (186)), .ref (bB Γ + (187)), .ref (bB Γ + (188)), .ref (bB Γ + (189)), .ref (bB Γ + (190)), .int 0, .int 0, .int 0, .int 0, .ref (bB Γ + (191)), .ref (bB Γ + (192)), .ref (bB Γ + (193)), .ref (bB Γ + (194)), .ref (bB Γ + (195)), .ref (bB Γ + (196)), .ref (bB Γ + (197)), .ref (bB Γ + (198)), .ref (bB Γ + (199)), .int 0, .ref (bB Γ + (200)), .ref (bB Γ + (201)), .ref (bB Γ + (202)), .ref (bB Γ + (203)), .ref (bB Γ + (204)), .int 0, .ref (bB Γ + (205)), .ref (bB Γ + (206)), .ref (bB Γ + (207)), .ref (bB Γ + (208)), .null, .null, .int 0, .int 0, .null, .int 0, .null, .null, .null, .int 0, .int 0, .int 0, .int 0, .int 0, .null, .null, .int 0, .int 0, .long 0, .int 0, .null, .null, .int 0, .null, .null]) X hm (by omega) rfl in_X11 tyX11 tyX11_ok nmX11 dX11_init_258 rfl (fun _ _ _ _ _ _ h => wc_sipush X dX11_init_259 si_512 h) dX11_init_262 dX11_init_264 ac_boolean rfl (fun U h => h) rfl (by decide) (by decide) (by decide) rfl (by decide) (by decide) 36 (by decide) rfl fl_X11_102 (fun _ => rfl) (fun _ => rfl) (Nat.le_of_ble_eq_true rfl) rfl (cz_z sh_208) ?_
  refine wi_arr (n := 209) (t0 := 0) (ty := .int) (x := (512, .inl (fun _ => 0))) (fs' := [.ref (bB Γ + (178)), .ref (bB Γ + (179)), .ref (bB Γ + (180)), .ref (bB Γ + (181)), .ref (bB Γ + (182)), .ref (bB Γ + (183)), .ref (bB Γ + (184)), .ref (bB Γ + (185)), .ref (bB Γ + (186)), .ref (bB Γ + (187)), .ref (bB Γ + (188)), .ref (bB Γ + (189)), .ref (bB Γ + (190)), .int 0, .int 0, .int 0, .int 0, .ref (bB Γ + (191)), .ref (bB Γ + (192)), .ref (bB Γ + (193)), .ref (bB Γ + (194)), .ref (bB Γ + (195)), .ref (bB Γ + (196)), .ref (bB Γ + (197)), .ref (bB Γ + (198)), .ref (bB Γ + (199)), .int 0, .ref (bB Γ + (200)), .ref (bB Γ + (201)), .ref (bB Γ + (202)), .ref (bB Γ + (203)), .ref (bB Γ + (204)), .int 0, .ref (bB Γ + (205)), .ref (bB Γ + (206)), .ref (bB Γ + (207)), .ref (bB Γ + (208)), .ref (bB Γ + (209)), .null, .int 0, .int 0, .null, .int 0, .null, .null, .null, .int 0, .int 0, .int 0, .int 0, .int 0, .null, .null, .int 0, .int 0, .long 0, .int 0, .null, .null, .int 0, .null, .null]) X hm (by omega) rfl in_X11 tyX11 tyX11_ok nmX11 dX11_init_267 rfl (fun _ _ _ _ _ _ h => wc_sipush X dX11_init_268 si_512 h) dX11_init_271 dX11_init_273 ac_int rfl (fun U h => h) rfl (by decide) (by decide) (by decide) rfl (by decide) (by decide) 37 (by decide) rfl fl_X11_105 (fun _ => rfl) (fun _ => rfl) (Nat.le_of_ble_eq_true rfl) rfl (cz_i sh_209) ?_
  refine wi_arr (n := 210) (t0 := 0) (ty := .int) (x := (512, .inl (fun _ => 0))) (fs' := [.ref (bB Γ + (178)), .ref (bB Γ + (179)), .ref (bB Γ + (180)), .ref (bB Γ + (181)), .ref (bB Γ + (182)), .ref (bB Γ + (183)), .ref (bB Γ + (184)), .ref (bB Γ + (185)), .ref (bB Γ + (186)), .ref (bB Γ + (187)), .ref (bB Γ + (188)), .ref (bB Γ + (189)), .ref (bB Γ + (190)), .int 0, .int 0, .int 0, .int 0, .ref (bB Γ + (191)), .ref (bB Γ + (192)), .ref (bB Γ + (193)), .ref (bB Γ + (194)), .ref (bB Γ + (195)), .ref (bB Γ + (196)), .ref (bB Γ + (197)), .ref (bB Γ + (198)), .ref (bB Γ + (199)), .int 0, .ref (bB Γ + (200)), .ref (bB Γ + (201)), .ref (bB Γ + (202)), .ref (bB Γ + (203)), .ref (bB Γ + (204)), .int 0, .ref (bB Γ + (205)), .ref (bB Γ + (206)), .ref (bB Γ + (207)), .ref (bB Γ + (208)), .ref (bB Γ + (209)), .ref (bB Γ + (210)), .int 0, .int 0, .null, .int 0, .null, .null, .null, .int 0, .int 0, .int 0, .int 0, .int 0, .null, .null, .int 0, .int 0, .long 0, .int 0, .null, .null, .int 0, .null, .null]) X hm (by omega) rfl in_X11 tyX11 tyX11_ok nmX11 dX11_init_276 rfl (fun _ _ _ _ _ _ h => wc_sipush X dX11_init_277 si_512 h) dX11_init_280 dX11_init_282 ac_int rfl (fun U h => h) rfl (by decide) (by decide) (by decide) rfl (by decide) (by decide) 38 (by decide) rfl fl_X11_108 (fun _ => rfl) (fun _ => rfl) (Nat.le_of_ble_eq_true rfl) rfl (cz_i sh_210) ?_
  refine wi_arr (n := 211) (t0 := 1) (ty := .long) (x := (6000, .inr (.inl (fun _ => 0)))) (fs' := [.ref (bB Γ + (178)), .ref (bB Γ + (179)), .ref (bB Γ + (180)), .ref (bB Γ + (181)), .ref (bB Γ + (182)), .ref (bB Γ + (183)), .ref (bB Γ + (184)), .ref (bB Γ + (185)), .ref (bB Γ + (186)), .ref (bB Γ + (187)), .ref (bB Γ + (188)), .ref (bB Γ + (189)), .ref (bB Γ + (190)), .int 0, .int 0, .int 0, .int 0, .ref (bB Γ + (191)), .ref (bB Γ + (192)), .ref (bB Γ + (193)), .ref (bB Γ + (194)), .ref (bB Γ + (195)), .ref (bB Γ + (196)), .ref (bB Γ + (197)), .ref (bB Γ + (198)), .ref (bB Γ + (199)), .int 0, .ref (bB Γ + (200)), .ref (bB Γ + (201)), .ref (bB Γ + (202)), .ref (bB Γ + (203)), .ref (bB Γ + (204)), .int 0, .ref (bB Γ + (205)), .ref (bB Γ + (206)), .ref (bB Γ + (207)), .ref (bB Γ + (208)), .ref (bB Γ + (209)), .ref (bB Γ + (210)), .int 0, .int 0, .ref (bB Γ + (211)), .int 0, .null, .null, .null, .int 0, .int 0, .int 0, .int 0, .int 0, .null, .null, .int 0, .int 0, .long 0, .int 0, .null, .null, .int 0, .null, .null]) X hm (by omega) rfl in_X11 tyX11 tyX11_ok nmX11 dX11_init_285 rfl (fun _ _ _ _ _ _ h => wc_sipush X dX11_init_286 si_6000 h) dX11_init_289 dX11_init_291 ac_long rfl (fun U h => h) rfl (by decide) (by decide) (by decide) rfl (by decide) (by decide) 41 (by decide) rfl fl_X11_111 (fun _ => rfl) (fun _ => rfl) (Nat.le_of_ble_eq_true rfl) rfl (cz_j sh_211) ?_
  refine wi_arr (n := 212) (t0 := 1) (ty := .long) (x := (32, .inr (.inl (fun _ => 0)))) (fs' := [.ref (bB Γ + (178)), .ref (bB Γ + (179)), .ref (bB Γ + (180)), .ref (bB Γ + (181)), .ref (bB Γ + (182)), .ref (bB Γ + (183)), .ref (bB Γ + (184)), .ref (bB Γ + (185)), .ref (bB Γ + (186)), .ref (bB Γ + (187)), .ref (bB Γ + (188)), .ref (bB Γ + (189)), .ref (bB Γ + (190)), .int 0, .int 0, .int 0, .int 0, .ref (bB Γ + (191)), .ref (bB Γ + (192)), .ref (bB Γ + (193)), .ref (bB Γ + (194)), .ref (bB Γ + (195)), .ref (bB Γ + (196)), .ref (bB Γ + (197)), .ref (bB Γ + (198)), .ref (bB Γ + (199)), .int 0, .ref (bB Γ + (200)), .ref (bB Γ + (201)), .ref (bB Γ + (202)), .ref (bB Γ + (203)), .ref (bB Γ + (204)), .int 0, .ref (bB Γ + (205)), .ref (bB Γ + (206)), .ref (bB Γ + (207)), .ref (bB Γ + (208)), .ref (bB Γ + (209)), .ref (bB Γ + (210)), .int 0, .int 0, .ref (bB Γ + (211)), .int 0, .ref (bB Γ + (212)), .null, .null, .int 0, .int 0, .int 0, .int 0, .int 0, .null, .null, .int 0, .int 0, .long 0, .int 0, .null, .null, .int 0, .null, .null]) X hm (by omega) rfl in_X11 tyX11 tyX11_ok nmX11 dX11_init_294 rfl (fun _ _ _ _ _ _ h => wc_bipush X dX11_init_295 bi_32 h) dX11_init_297 dX11_init_299 ac_long rfl (fun U h => h) rfl (by decide) (by decide) (by decide) rfl (by decide) (by decide) 43 (by decide) rfl fl_X11_114 (fun _ => rfl) (fun _ => rfl) (Nat.le_of_ble_eq_true rfl) rfl (cz_j sh_212) ?_
  refine wi_arr (n := 213) (t0 := 1) (ty := .long) (x := (16, .inr (.inl (fun _ => 0)))) (fs' := [.ref (bB Γ + (178)), .ref (bB Γ + (179)), .ref (bB Γ + (180)), .ref (bB Γ + (181)), .ref (bB Γ + (182)), .ref (bB Γ + (183)), .ref (bB Γ + (184)), .ref (bB Γ + (185)), .ref (bB Γ + (186)), .ref (bB Γ + (187)), .ref (bB Γ + (188)), .ref (bB Γ + (189)), .ref (bB Γ + (190)), .int 0, .int 0, .int 0, .int 0, .ref (bB Γ + (191)), .ref (bB Γ + (192)), .ref (bB Γ + (193)), .ref (bB Γ + (194)), .ref (bB Γ + (195)), .ref (bB Γ + (196)), .ref (bB Γ + (197)), .ref (bB Γ + (198)), .ref (bB Γ + (199)), .int 0, .ref (bB Γ + (200)), .ref (bB Γ + (201)), .ref (bB Γ + (202)), .ref (bB Γ + (203)), .ref (bB Γ + (204)), .int 0, .ref (bB Γ + (205)), .ref (bB Γ + (206)), .ref (bB Γ + (207)), .ref (bB Γ + (208)), .ref (bB Γ + (209)), .ref (bB Γ + (210)), .int 0, .int 0, .ref (bB Γ + (211)), .int 0, .ref (bB Γ + (212)), .ref (bB Γ + (213)), .null, .int 0, .int 0, .int 0, .int 0, .int 0, .null, .null, .int 0, .int 0, .long 0, .int 0, .null, .null, .int 0, .null, .null]) X hm (by omega) rfl in_X11 tyX11 tyX11_ok nmX11 dX11_init_302 rfl (fun _ _ _ _ _ _ h => wc_bipush X dX11_init_303 bi_16 h) dX11_init_305 dX11_init_307 ac_long rfl (fun U h => h) rfl (by decide) (by decide) (by decide) rfl (by decide) (by decide) 44 (by decide) rfl fl_X11_117 (fun _ => rfl) (fun _ => rfl) (Nat.le_of_ble_eq_true rfl) rfl (cz_j sh_213) ?_
  refine wi_arr (n := 214) (t0 := 1) (ty := .long) (x := (16, .inr (.inl (fun _ => 0)))) (fs' := [.ref (bB Γ + (178)), .ref (bB Γ + (179)), .ref (bB Γ + (180)), .ref (bB Γ + (181)), .ref (bB Γ + (182)), .ref (bB Γ + (183)), .ref (bB Γ + (184)), .ref (bB Γ + (185)), .ref (bB Γ + (186)), .ref (bB Γ + (187)), .ref (bB Γ + (188)), .ref (bB Γ + (189)), .ref (bB Γ + (190)), .int 0, .int 0, .int 0, .int 0, .ref (bB Γ + (191)), .ref (bB Γ + (192)), .ref (bB Γ + (193)), .ref (bB Γ + (194)), .ref (bB Γ + (195)), .ref (bB Γ + (196)), .ref (bB Γ + (197)), .ref (bB Γ + (198)), .ref (bB Γ + (199)), .int 0, .ref (bB Γ + (200)), .ref (bB Γ + (201)), .ref (bB Γ + (202)), .ref (bB Γ + (203)), .ref (bB Γ + (204)), .int 0, .ref (bB Γ + (205)), .ref (bB Γ + (206)), .ref (bB Γ + (207)), .ref (bB Γ + (208)), .ref (bB Γ + (209)), .ref (bB Γ + (210)), .int 0, .int 0, .ref (bB Γ + (211)), .int 0, .ref (bB Γ + (212)), .ref (bB Γ + (213)), .ref (bB Γ + (214)), .int 0, .int 0, .int 0, .int 0, .int 0, .null, .null, .int 0, .int 0, .long 0, .int 0, .null, .null, .int 0, .null, .null]) X hm (by omega) rfl in_X11 tyX11 tyX11_ok nmX11 dX11_init_310 rfl (fun _ _ _ _ _ _ h => wc_bipush X dX11_init_311 bi_16 h) dX11_init_313 dX11_init_315 ac_long rfl (fun U h => h) rfl (by decide) (by decide) (by decide) rfl (by decide) (by decide) 45 (by decide) rfl fl_X11_120 (fun _ => rfl) (fun _ => rfl) (Nat.le_of_ble_eq_true rfl) rfl (cz_j sh_214) ?_
  refine wi_arr (n := 215) (t0 := 1) (ty := .long) (x := (32, .inr (.inl (fun _ => 0)))) (fs' := [.ref (bB Γ + (178)), .ref (bB Γ + (179)), .ref (bB Γ + (180)), .ref (bB Γ + (181)), .ref (bB Γ + (182)), .ref (bB Γ + (183)), .ref (bB Γ + (184)), .ref (bB Γ + (185)), .ref (bB Γ + (186)), .ref (bB Γ + (187)), .ref (bB Γ + (188)), .ref (bB Γ + (189)), .ref (bB Γ + (190)), .int 0, .int 0, .int 0, .int 0, .ref (bB Γ + (191)), .ref (bB Γ + (192)), .ref (bB Γ + (193)), .ref (bB Γ + (194)), .ref (bB Γ + (195)), .ref (bB Γ + (196)), .ref (bB Γ + (197)), .ref (bB Γ + (198)), .ref (bB Γ + (199)), .int 0, .ref (bB Γ + (200)), .ref (bB Γ + (201)), .ref (bB Γ + (202)), .ref (bB Γ + (203)), .ref (bB Γ + (204)), .int 0, .ref (bB Γ + (205)), .ref (bB Γ + (206)), .ref (bB Γ + (207)), .ref (bB Γ + (208)), .ref (bB Γ + (209)), .ref (bB Γ + (210)), .int 0, .int 0, .ref (bB Γ + (211)), .int 0, .ref (bB Γ + (212)), .ref (bB Γ + (213)), .ref (bB Γ + (214)), .int 0, .int 0, .int 0, .int 0, .int 0, .ref (bB Γ + (215)), .null, .int 0, .int 0, .long 0, .int 0, .null, .null, .int 0, .null, .null]) X hm (by omega) rfl in_X11 tyX11 tyX11_ok nmX11 dX11_init_318 rfl (fun _ _ _ _ _ _ h => wc_bipush X dX11_init_319 bi_32 h) dX11_init_321 dX11_init_323 ac_long rfl (fun U h => h) rfl (by decide) (by decide) (by decide) rfl (by decide) (by decide) 51 (by decide) rfl fl_X11_123 (fun _ => rfl) (fun _ => rfl) (Nat.le_of_ble_eq_true rfl) rfl (cz_j sh_215) ?_
  refine wi_arr (n := 216) (t0 := 1) (ty := .long) (x := (64, .inr (.inl (fun _ => 0)))) (fs' := [.ref (bB Γ + (178)), .ref (bB Γ + (179)), .ref (bB Γ + (180)), .ref (bB Γ + (181)), .ref (bB Γ + (182)), .ref (bB Γ + (183)), .ref (bB Γ + (184)), .ref (bB Γ + (185)), .ref (bB Γ + (186)), .ref (bB Γ + (187)), .ref (bB Γ + (188)), .ref (bB Γ + (189)), .ref (bB Γ + (190)), .int 0, .int 0, .int 0, .int 0, .ref (bB Γ + (191)), .ref (bB Γ + (192)), .ref (bB Γ + (193)), .ref (bB Γ + (194)), .ref (bB Γ + (195)), .ref (bB Γ + (196)), .ref (bB Γ + (197)), .ref (bB Γ + (198)), .ref (bB Γ + (199)), .int 0, .ref (bB Γ + (200)), .ref (bB Γ + (201)), .ref (bB Γ + (202)), .ref (bB Γ + (203)), .ref (bB Γ + (204)), .int 0, .ref (bB Γ + (205)), .ref (bB Γ + (206)), .ref (bB Γ + (207)), .ref (bB Γ + (208)), .ref (bB Γ + (209)), .ref (bB Γ + (210)), .int 0, .int 0, .ref (bB Γ + (211)), .int 0, .ref (bB Γ + (212)), .ref (bB Γ + (213)), .ref (bB Γ + (214)), .int 0, .int 0, .int 0, .int 0, .int 0, .ref (bB Γ + (215)), .ref (bB Γ + (216)), .int 0, .int 0, .long 0, .int 0, .null, .null, .int 0, .null, .null]) X hm (by omega) rfl in_X11 tyX11 tyX11_ok nmX11 dX11_init_326 rfl (fun _ _ _ _ _ _ h => wc_bipush X dX11_init_327 bi_64 h) dX11_init_329 dX11_init_331 ac_long rfl (fun U h => h) rfl (by decide) (by decide) (by decide) rfl (by decide) (by decide) 52 (by decide) rfl fl_X11_126 (fun _ => rfl) (fun _ => rfl) (Nat.le_of_ble_eq_true rfl) rfl (cz_j sh_216) ?_
  refine wi_arr (n := 217) (t0 := 1) (ty := .long) (x := (12, .inr (.inl (fun _ => 0)))) (fs' := [.ref (bB Γ + (178)), .ref (bB Γ + (179)), .ref (bB Γ + (180)), .ref (bB Γ + (181)), .ref (bB Γ + (182)), .ref (bB Γ + (183)), .ref (bB Γ + (184)), .ref (bB Γ + (185)), .ref (bB Γ + (186)), .ref (bB Γ + (187)), .ref (bB Γ + (188)), .ref (bB Γ + (189)), .ref (bB Γ + (190)), .int 0, .int 0, .int 0, .int 0, .ref (bB Γ + (191)), .ref (bB Γ + (192)), .ref (bB Γ + (193)), .ref (bB Γ + (194)), .ref (bB Γ + (195)), .ref (bB Γ + (196)), .ref (bB Γ + (197)), .ref (bB Γ + (198)), .ref (bB Γ + (199)), .int 0, .ref (bB Γ + (200)), .ref (bB Γ + (201)), .ref (bB Γ + (202)), .ref (bB Γ + (203)), .ref (bB Γ + (204)), .int 0, .ref (bB Γ + (205)), .ref (bB Γ + (206)), .ref (bB Γ + (207)), .ref (bB Γ + (208)), .ref (bB Γ + (209)), .ref (bB Γ + (210)), .int 0, .int 0, .ref (bB Γ + (211)), .int 0, .ref (bB Γ + (212)), .ref (bB Γ + (213)), .ref (bB Γ + (214)), .int 0, .int 0, .int 0, .int 0, .int 0, .ref (bB Γ + (215)), .ref (bB Γ + (216)), .int 0, .int 0, .long 0, .int 0, .ref (bB Γ + (217)), .null, .int 0, .null, .null]) X hm (by omega) rfl in_X11 tyX11 tyX11_ok nmX11 dX11_init_334 rfl (fun _ _ _ _ _ _ h => wc_bipush X dX11_init_335 bi_12 h) dX11_init_337 dX11_init_339 ac_long rfl (fun U h => h) rfl (by decide) (by decide) (by decide) rfl (by decide) (by decide) 57 (by decide) rfl fl_X11_129 (fun _ => rfl) (fun _ => rfl) (Nat.le_of_ble_eq_true rfl) rfl (cz_j sh_217) ?_
  refine wi_arr (n := 218) (t0 := 0) (ty := .int) (x := (12, .inl (fun _ => 0))) (fs' := [.ref (bB Γ + (178)), .ref (bB Γ + (179)), .ref (bB Γ + (180)), .ref (bB Γ + (181)), .ref (bB Γ + (182)), .ref (bB Γ + (183)), .ref (bB Γ + (184)), .ref (bB Γ + (185)), .ref (bB Γ + (186)), .ref (bB Γ + (187)), .ref (bB Γ + (188)), .ref (bB Γ + (189)), .ref (bB Γ + (190)), .int 0, .int 0, .int 0, .int 0, .ref (bB Γ + (191)), .ref (bB Γ + (192)), .ref (bB Γ + (193)), .ref (bB Γ + (194)), .ref (bB Γ + (195)), .ref (bB Γ + (196)), .ref (bB Γ + (197)), .ref (bB Γ + (198)), .ref (bB Γ + (199)), .int 0, .ref (bB Γ + (200)), .ref (bB Γ + (201)), .ref (bB Γ + (202)), .ref (bB Γ + (203)), .ref (bB Γ + (204)), .int 0, .ref (bB Γ + (205)), .ref (bB Γ + (206)), .ref (bB Γ + (207)), .ref (bB Γ + (208)), .ref (bB Γ + (209)), .ref (bB Γ + (210)), .int 0, .int 0, .ref (bB Γ + (211)), .int 0, .ref (bB Γ + (212)), .ref (bB Γ + (213)), .ref (bB Γ + (214)), .int 0, .int 0, .int 0, .int 0, .int 0, .ref (bB Γ + (215)), .ref (bB Γ + (216)), .int 0, .int 0, .long 0, .int 0, .ref (bB Γ + (217)), .ref (bB Γ + (218)), .int 0, .null, .null]) X hm (by omega) rfl in_X11 tyX11 tyX11_ok nmX11 dX11_init_342 rfl (fun _ _ _ _ _ _ h => wc_bipush X dX11_init_343 bi_12 h) dX11_init_345 dX11_init_347 ac_int rfl (fun U h => h) rfl (by decide) (by decide) (by decide) rfl (by decide) (by decide) 58 (by decide) rfl fl_X11_132 (fun _ => rfl) (fun _ => rfl) (Nat.le_of_ble_eq_true rfl) rfl (cz_i sh_218) ?_
  refine wi_arr (n := 219) (t0 := 0) (ty := .int) (x := (64, .inl (fun _ => 0))) (fs' := [.ref (bB Γ + (178)), .ref (bB Γ + (179)), .ref (bB Γ + (180)), .ref (bB Γ + (181)), .ref (bB Γ + (182)), .ref (bB Γ + (183)), .ref (bB Γ + (184)), .ref (bB Γ + (185)), .ref (bB Γ + (186)), .ref (bB Γ + (187)), .ref (bB Γ + (188)), .ref (bB Γ + (189)), .ref (bB Γ + (190)), .int 0, .int 0, .int 0, .int 0, .ref (bB Γ + (191)), .ref (bB Γ + (192)), .ref (bB Γ + (193)), .ref (bB Γ + (194)), .ref (bB Γ + (195)), .ref (bB Γ + (196)), .ref (bB Γ + (197)), .ref (bB Γ + (198)), .ref (bB Γ + (199)), .int 0, .ref (bB Γ + (200)), .ref (bB Γ + (201)), .ref (bB Γ + (202)), .ref (bB Γ + (203)), .ref (bB Γ + (204)), .int 0, .ref (bB Γ + (205)), .ref (bB Γ + (206)), .ref (bB Γ + (207)), .ref (bB Γ + (208)), .ref (bB Γ + (209)), .ref (bB Γ + (210)), .int 0, .int 0, .ref (bB Γ + (211)), .int 0, .ref (bB Γ + (212)), .ref (bB Γ + (213)), .ref (bB Γ + (214)), .int 0, .int 0, .int 0, .int 0, .int 0, .ref (bB Γ + (215)), .ref (bB Γ + (216)), .int 0, .int 0, .long 0, .int 0, .ref (bB Γ + (217)), .ref (bB Γ + (218)), .int 0, .ref (bB Γ + (219)), .null]) X hm (by omega) rfl in_X11 tyX11 tyX11_ok nmX11 dX11_init_350 rfl (fun _ _ _ _ _ _ h => wc_bipush X dX11_init_351 bi_64 h) dX11_init_353 dX11_init_355 ac_int rfl (fun U h => h) rfl (by decide) (by decide) (by decide) rfl (by decide) (by decide) 60 (by decide) rfl fl_X11_135 (fun _ => rfl) (fun _ => rfl) (Nat.le_of_ble_eq_true rfl) rfl (cz_i sh_219) ?_
  refine wi_arr (n := 220) (t0 := 0) (ty := .int) (x := (12, .inl (fun _ => 0))) (fs' := [.ref (bB Γ + (178)), .ref (bB Γ + (179)), .ref (bB Γ + (180)), .ref (bB Γ + (181)), .ref (bB Γ + (182)), .ref (bB Γ + (183)), .ref (bB Γ + (184)), .ref (bB Γ + (185)), .ref (bB Γ + (186)), .ref (bB Γ + (187)), .ref (bB Γ + (188)), .ref (bB Γ + (189)), .ref (bB Γ + (190)), .int 0, .int 0, .int 0, .int 0, .ref (bB Γ + (191)), .ref (bB Γ + (192)), .ref (bB Γ + (193)), .ref (bB Γ + (194)), .ref (bB Γ + (195)), .ref (bB Γ + (196)), .ref (bB Γ + (197)), .ref (bB Γ + (198)), .ref (bB Γ + (199)), .int 0, .ref (bB Γ + (200)), .ref (bB Γ + (201)), .ref (bB Γ + (202)), .ref (bB Γ + (203)), .ref (bB Γ + (204)), .int 0, .ref (bB Γ + (205)), .ref (bB Γ + (206)), .ref (bB Γ + (207)), .ref (bB Γ + (208)), .ref (bB Γ + (209)), .ref (bB Γ + (210)), .int 0, .int 0, .ref (bB Γ + (211)), .int 0, .ref (bB Γ + (212)), .ref (bB Γ + (213)), .ref (bB Γ + (214)), .int 0, .int 0, .int 0, .int 0, .int 0, .ref (bB Γ + (215)), .ref (bB Γ + (216)), .int 0, .int 0, .long 0, .int 0, .ref (bB Γ + (217)), .ref (bB Γ + (218)), .int 0, .ref (bB Γ + (219)), .ref (bB Γ + (220))]) X hm (by omega) rfl in_X11 tyX11 tyX11_ok nmX11 dX11_init_358 rfl (fun _ _ _ _ _ _ h => wc_bipush X dX11_init_359 bi_12 h) dX11_init_361 dX11_init_363 ac_int rfl (fun U h => h) rfl (by decide) (by decide) (by decide) rfl (by decide) (by decide) 61 (by decide) rfl fl_X11_138 (fun _ => rfl) (fun _ => rfl) (Nat.le_of_ble_eq_true rfl) rfl (cz_i sh_220) ?_
  intro e f1 f2 f3
  refine wc_iconst X dX11_init_366 ic_0 ?_
  refine wc_istore_n (L' := [(1, .int 0), (0, .ref (bB Γ + 177))]) X dX11_init_367 rfl (by decide) rfl ?_
  exact md_loop X Y hg 16 0 (by decide) e f1 (by rw [f2 178 (by decide) (by decide), cz_i sh_178]; simp) (fun i h1 h2 => f2 i (by omega) h2) f3
