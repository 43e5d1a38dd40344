/-! Constructors: the world grows; cell i lies at B + i. -/
def I0 : MI := fun i k => if shp[i]? = some (4, 0) ∧ k = 0 then -1 else 0
def J0 : MJ := fun _ _ => 0
def cz (g : GE) (i : Nat) : va_E := cel g (I0 i) (J0 i) i
def wl (B n : Nat) (e : Nat → va_E) : va_W := (List.range n).map (fun i => (B + i, e i))
theorem wl_at {B n i : Nat} {e : Nat → va_E} (h : i < n) : (wl B n e)[i]? = some (B + i, e i) := by
  simp [wl, List.getElem?_map, List.getElem?_range h]
theorem wl_out {B n i : Nat} {e : Nat → va_E} (h : ¬ i < n) : (wl B n e)[i]? = none := by
  simp [wl]
  omega
theorem wl_inv {B n k : Nat} {e : Nat → va_E} {q : Nat × va_E} (h : (wl B n e)[k]? = some q) : k < n ∧ q = (B + k, e k) := by
  by_cases hk : k < n
  · rw [wl_at hk] at h
    exact ⟨hk, (Option.some.inj h).symm⟩
  · rw [wl_out hk] at h
    cases h
theorem wl_D {B n : Nat} {e : Nat → va_E} : va_D (fun q => B ≤ q) (wl B n e) := by
  refine ⟨fun i j p q h1 h2 he => ?_, fun k q h => ?_⟩
  · obtain ⟨a1, a2⟩ := wl_inv h1
    obtain ⟨b1, b2⟩ := wl_inv h2
    rw [a2, b2] at he
    simp only at he
    omega
  · obtain ⟨a1, a2⟩ := wl_inv h
    rw [a2]
    simp only
    omega
theorem wl_push {B n : Nat} {e : Nat → va_E} {x : va_E} : wl B n e ++ [(B + n, x)] = wl B (n + 1) (va_up e n x) := by
  apply List.ext_getElem?
  intro i
  rcases Nat.lt_trichotomy i n with h | h | h
  · rw [List.getElem?_append_left (by simp [wl]; exact h), wl_at h, wl_at (by omega), va_up_ne _ _ (by omega)]
  · subst h
    rw [List.getElem?_append_right (by simp [wl]), wl_at (by omega), va_up_self]
    simp [wl]
  · rw [List.getElem?_append_right (by simp [wl]; omega), wl_out (by omega)]
    simp [wl]
    omega
theorem wl_set {B n o : Nat} {e : Nat → va_E} {x : va_E} (ho : o < n) : (wl B n e).set o (B + o, x) = wl B n (va_up e o x) := by
  apply List.ext_getElem?
  intro i
  by_cases hi : i < n
  · by_cases h : o = i
    · subst h
      rw [List.getElem?_set_self (by simp [wl]; exact hi), wl_at hi, va_up_self]
    · rw [List.getElem?_set_ne h, wl_at hi, wl_at hi, va_up_ne _ _ (Ne.symm h)]
  · rw [wl_out hi]
    simp [wl]
    omega
theorem wl_congr {B n : Nat} {e e' : Nat → va_E} (h : ∀ i, i < n → e i = e' i) : wl B n e = wl B n e' := by
  apply List.map_congr_left
  intro i hi
  rw [h i (List.mem_range.mp hi)]
theorem wl_wd {g : GE} {B : Nat} {e : Nat → va_E} {I : MI} {J : MJ} (hg : g.1 = fun i => B + i) (h : ∀ i, i < NC → e i = cel g (I i) (J i) i) : wl B NC e = wd g I J := by
  apply List.map_congr_left
  intro i hi
  rw [h i (List.mem_range.mp hi), hg]
/-- the links of constructors that are private in a nest -/
def nestL : List Cond := [.methodLinkNest RX10 17 yX0_init RX10, .methodLinkNest RX10 24 yX1_init RX10, .methodLinkNest RX1 3 yX8_init RX10, .methodLinkNest RX1 11 yX3_init RX10, .methodLinkNest RX3 3 yX8_init RX10, .methodLinkNest RX10 31 yX7_init RX10, .methodLinkNest RX10 38 yX6_init RX10, .methodLinkNest RX6 11 yX3_init RX10, .methodLinkNest RX10 45 yX5_init RX10, .methodLinkNest RX5 11 yX3_init RX10, .methodLinkNest RX10 52 yX2_init RX10, .methodLinkNest RX10 59 yX3_init RX10, .methodLinkNest RX10 68 yX4_init RX10, .methodLinkNest RX4 17 yX3_init RX10]
def isNest (w : Cond) : Prop := ∃ a i x h, w = .methodLinkNest a i x h
theorem nestL_is : ∀ w ∈ nestL, isNest w := by
  intro w hw
  simp only [nestL, List.mem_cons, List.not_mem_nil, or_false] at hw
  rcases hw with h | h | h | h | h | h | h | h | h | h | h | h | h | h <;> exact ⟨_, _, _, _, h⟩
theorem nestL_tbl : ∀ w ∈ nestL, w ∈ lw_tbl := by decide +kernel
def NK (U : State) : Prop := (∀ w ∈ nestL, va_Nw w U) ∧ va_AO RX4 U
theorem NK.warm {s U : State} (hW : s.WarmedH U.vm) (h : NK s) : NK U := by
  refine ⟨fun w hw => ?_, va_AO.moved hW.alike h.2⟩
  obtain ⟨a, i, x, b, rfl⟩ := nestL_is w hw
  exact va_Nw.warmM hW (h.1 _ hw)
theorem NK.same {s U : State} (hvm : s.vm = U.vm) (h : NK s) : NK U := by
  refine ⟨fun w hw => ?_, va_AO.moved (by rw [hvm]; exact Vm.Alike.refl _) h.2⟩
  obtain ⟨a, i, x, b, rfl⟩ := nestL_is w hw
  exact va_Nw.same rfl hvm (h.1 _ hw)
abbrev rmc (d mc ms : Nat) : Room := { frames := d, cells := mc, slots := ms, locals := 45 * d }
abbrev Cty : Type := Program × Launch × Env × Room × State × MethodId × Array Value × List Frame × Method × Code × (State → Prop) × GE × Nat
def Wc (Γ : Cty) (nL pc : Nat) (L : List (Nat × Value)) (st : List Value) (n : Nat) (e : Nat → va_E) (cells slots : Nat) : Prop := match Γ with
  | (p, l, ev, R, s, m, args, below, meth, c, Q, g, B) => ∀ (H : Heap) (locs : List Loc) (ls : Array Slot), va_P g.2.1 vwCl (wl B n e) H → va_S (fun q => B ≤ q) s.heap H locs → H.size = B + n → lv_has ls nL L → W p l ev R s m args below meth c H locs cells slots Q (F0 m pc ls st)
def Xc (Γ : Cty) (cc : ByteArray) (nL : Nat) (own : String) (d mC mS : Nat) : Prop := match Γ with
  | (p, l, ev, R, s, m, args, below, meth, c, Q, g, B) => p.tables.exec = Jvm.exec ∧ c.code = cc ∧ c.maxLocals = nL ∧ s.vm.findClass own = some m.cls ∧ (∀ w ∈ TT, w.before args s = true) ∧ KG g s ∧ NK s ∧ B ≤ s.heap.size ∧ d ≤ R.frames ∧ 45 * d ≤ R.locals ∧ mC ≤ R.cells ∧ mS ≤ R.slots ∧ g.1 = fun i => B + i
abbrev bB (Γ : Cty) : Nat := Γ.2.2.2.2.2.2.2.2.2.2.2.2
abbrev bG (Γ : Cty) : GE := Γ.2.2.2.2.2.2.2.2.2.2.2.1
abbrev bL (Γ : Cty) : Launch := Γ.2.1
abbrev bM (Γ : Cty) : Method := Γ.2.2.2.2.2.2.2.2.1
section WC
variable {Γ : Cty} {cc : ByteArray} {nL d pc mC mS : Nat} {own : String} {L : List (Nat × Value)} {st : List Value} {n : Nat} {e : Nat → va_E} {cells slots : Nat}
theorem wc_aload_n {k0 : Fin 4} {x : Nat} (X : Xc Γ cc nL own d mC mS) (hd : decode cc pc = .ok (.aload_n k0, 1)) (j : Nat) (hj : L[j]? = some ((k0 : Nat), .ref x)) (k : Wc Γ nL (pc + 1) L (.ref x :: st) n e cells slots) : Wc Γ nL pc L st n e cells slots := by
  obtain ⟨p, l, ev, R, s, m, args, below, meth, c, Q, g, B⟩ := Γ
  exact fun H locs ls hP hS hz hl => lv_aload_n X.1 X.2.1 hd rfl (lv_at hl j hj) (k H locs ls hP hS hz hl)
theorem wc_iload_n {k0 : Fin 4} {x : Int32} (X : Xc Γ cc nL own d mC mS) (hd : decode cc pc = .ok (.iload_n k0, 1)) (j : Nat) (hj : L[j]? = some ((k0 : Nat), .int x)) (k : Wc Γ nL (pc + 1) L (.int x :: st) n e cells slots) : Wc Γ nL pc L st n e cells slots := by
  obtain ⟨p, l, ev, R, s, m, args, below, meth, c, Q, g, B⟩ := Γ
  exact fun H locs ls hP hS hz hl => lv_iload_n X.1 X.2.1 hd rfl (lv_at hl j hj) (k H locs ls hP hS hz hl)
theorem wc_astore_n {k0 : Fin 4} {i x : Nat} {L' : List (Nat × Value)} (X : Xc Γ cc nL own d mC mS) (hd : decode cc pc = .ok (.astore_n k0, 1)) (hi : (k0 : Nat) = i) (hn : i < nL) (hl : (i, Value.ref x) :: L.filter (fun q => !(q.1 == i) && !(q.1 + 1 == i && q.2.category == 2)) = L') (k : Wc Γ nL (pc + 1) L' st n e cells slots) : Wc Γ nL pc L (.ref x :: st) n e cells slots := by
  obtain ⟨p, l, ev, R, s, m, args, below, meth, c, Q, g, B⟩ := Γ
  exact fun H locs ls hP hS hz hl0 => lv_astore_n X.1 X.2.1 hd hi hl0 hn hl (fun ls' hl' => k H locs ls' hP hS hz hl')
theorem wc_istore_n {k0 : Fin 4} {i : Nat} {x : Int32} {L' : List (Nat × Value)} (X : Xc Γ cc nL own d mC mS) (hd : decode cc pc = .ok (.istore_n k0, 1)) (hi : (k0 : Nat) = i) (hn : i < nL) (hl : (i, Value.int x) :: L.filter (fun q => !(q.1 == i) && !(q.1 + 1 == i && q.2.category == 2)) = L') (k : Wc Γ nL (pc + 1) L' st n e cells slots) : Wc Γ nL pc L (.int x :: st) n e cells slots := by
  obtain ⟨p, l, ev, R, s, m, args, below, meth, c, Q, g, B⟩ := Γ
  exact fun H locs ls hP hS hz hl0 => lv_istore_n X.1 X.2.1 hd hi hl0 hn hl (fun ls' hl' => k H locs ls' hP hS hz hl')
theorem wc_iinc {i : Nat} {a : Int} {x v : Int32} {L' : List (Nat × Value)} (X : Xc Γ cc nL own d mC mS) (hd : decode cc pc = .ok (.iinc i a, 3)) (j : Nat) (hj : L[j]? = some (i, .int x)) (hv : x + Int32.ofInt a = v) (hn : i < nL) (hl : (i, Value.int v) :: L.filter (fun q => !(q.1 == i) && !(q.1 + 1 == i && q.2.category == 2)) = L') (k : Wc Γ nL (pc + 3) L' st n e cells slots) : Wc Γ nL pc L st n e cells slots := by
  obtain ⟨p, l, ev, R, s, m, args, below, meth, c, Q, g, B⟩ := Γ
  exact fun H locs ls hP hS hz hl0 => lv_iinc X.1 X.2.1 hd hl0 hj hv hn hl (fun ls' hl' => k H locs ls' hP hS hz hl')
theorem wc_iconst {a : Int} {v : Int32} (X : Xc Γ cc nL own d mC mS) (hd : decode cc pc = .ok (.iconst a, 1)) (hv : Int32.ofInt a = v) (k : Wc Γ nL (pc + 1) L (.int v :: st) n e cells slots) : Wc Γ nL pc L st n e cells slots := by
  obtain ⟨p, l, ev, R, s, m, args, below, meth, c, Q, g, B⟩ := Γ
  exact fun H locs ls hP hS hz hl => lv_iconst X.1 X.2.1 hd hv (k H locs ls hP hS hz hl)
theorem wc_bipush {a : Int} {v : Int32} (X : Xc Γ cc nL own d mC mS) (hd : decode cc pc = .ok (.bipush a, 2)) (hv : (Int8.ofInt a).toInt32 = v) (k : Wc Γ nL (pc + 2) L (.int v :: st) n e cells slots) : Wc Γ nL pc L st n e cells slots := by
  obtain ⟨p, l, ev, R, s, m, args, below, meth, c, Q, g, B⟩ := Γ
  exact fun H locs ls hP hS hz hl => lv_bipush X.1 X.2.1 hd hv (k H locs ls hP hS hz hl)
theorem wc_sipush {a : Int} {v : Int32} (X : Xc Γ cc nL own d mC mS) (hd : decode cc pc = .ok (.sipush a, 3)) (hv : (Int16.ofInt a).toInt32 = v) (k : Wc Γ nL (pc + 3) L (.int v :: st) n e cells slots) : Wc Γ nL pc L st n e cells slots := by
  obtain ⟨p, l, ev, R, s, m, args, below, meth, c, Q, g, B⟩ := Γ
  exact fun H locs ls hP hS hz hl => lv_sipush X.1 X.2.1 hd hv (k H locs ls hP hS hz hl)
theorem wc_dup {v : Value} (X : Xc Γ cc nL own d mC mS) (hd : decode cc pc = .ok (.dup, 1)) (hv : v.category = 1) (k : Wc Γ nL (pc + 1) L (v :: v :: st) n e cells slots) : Wc Γ nL pc L (v :: st) n e cells slots := by
  obtain ⟨p, l, ev, R, s, m, args, below, meth, c, Q, g, B⟩ := Γ
  exact fun H locs ls hP hS hz hl => lv_dup X.1 X.2.1 hd hv (k H locs ls hP hS hz hl)
theorem wc_goto {off : Int} {tgt : Nat} (X : Xc Γ cc nL own d mC mS) (hd : decode cc pc = .ok (.goto off, 3)) (ht : (pc : Int) + off = (tgt : Int)) (k : Wc Γ nL tgt L st n e cells slots) : Wc Γ nL pc L st n e cells slots := by
  obtain ⟨p, l, ev, R, s, m, args, below, meth, c, Q, g, B⟩ := Γ
  exact fun H locs ls hP hS hz hl => lv_goto X.1 X.2.1 hd ht (k H locs ls hP hS hz hl)
theorem wc_icmp_ge {x y : Int32} {off : Int} {tgt : Nat} (X : Xc Γ cc nL own d mC mS) (hd : decode cc pc = .ok (.if_icmp .ge off, 3)) (ht : (pc : Int) + off = (tgt : Int)) (kt : y ≤ x → Wc Γ nL tgt L st n e cells slots) (kf : ¬ y ≤ x → Wc Γ nL (pc + 3) L st n e cells slots) : Wc Γ nL pc L (.int y :: .int x :: st) n e cells slots := by
  obtain ⟨p, l, ev, R, s, m, args, below, meth, c, Q, g, B⟩ := Γ
  exact fun H locs ls hP hS hz hl => lv_icmp_ge X.1 X.2.1 hd ht (fun h => kt h H locs ls hP hS hz hl) (fun h => kf h H locs ls hP hS hz hl)
theorem wc_sub {L' : List (Nat × Value)} (ks : List Nat) (h : lv_pick L ks = L') (k : Wc Γ nL pc L' st n e cells slots) : Wc Γ nL pc L st n e cells slots := by
  obtain ⟨p, l, ev, R, s, m, args, below, meth, c, Q, g, B⟩ := Γ
  exact fun H locs ls hP hS hz hl => k H locs ls hP hS hz (lv_sub hl ks h)
theorem wc_widen {k1 n1 : Nat} (h1 : cells ≤ k1) (h2 : slots ≤ n1) (k : Wc Γ nL pc L st n e k1 n1) : Wc Γ nL pc L st n e cells slots := by
  obtain ⟨p, l, ev, R, s, m, args, below, meth, c, Q, g, B⟩ := Γ
  exact fun H locs ls hP hS hz hl => W.widen h1 h2 (k H locs ls hP hS hz hl)
theorem wc_obj {index o : Nat} (X : Xc Γ cc nL own d mC mS) (hd : decode cc pc = .ok (.invokespecial index, 3)) (hlink : Cond.methodLink own index objectInit ∈ TT) (hw : Cond.instanceMethod objectInit ∈ TT ∧ Cond.code objectInit ⟨#[0xb1]⟩ 1 none ∈ TT) (hd1 : 1 ≤ d) (k : Wc Γ nL (pc + 3) L [] n e cells slots) : Wc Γ nL pc L [.ref o] n e cells slots := by
  obtain ⟨p, l, ev, R, s, m, args, below, meth, c, Q, g, B⟩ := Γ
  obtain ⟨hx, hb, hml, hown, hts, hK, hN, hB, hfr, hlo, hce, hsl, hg⟩ := X
  exact fun H locs ls hP hS hz hl => W.objInit (rest := []) hx hb hown (hts _ hlink) (hts _ hw.1) (hts _ hw.2) rfl (by rw [hml]; exact hl.1) rfl hd (by omega) (by simp [JFrame.monitorRoom]; omega) (k H locs ls hP hS hz hl)
set_option maxHeartbeats 4000000 in
theorem wc_newa {atype : ArrayType} {a : Int32} {N t0 : Nat} {ty : FieldType} {cA : ClassId} {x : vp_A} (X : Xc Γ cc nL own d mC mS) (hd : decode cc pc = .ok (.newarray atype, 2)) (harr : Cond.arrayClass (newarray.typeOf atype) ∈ TT) (hty : newarray.typeOf atype = ty) (hR : ∀ U : State, va_RA U cA ty → U.vm.findClass ("[" ++ ty.toString) = some cA) (ht : (tysG (bG Γ))[t0]? = some (cA, ty)) (hn : ¬ a < 0) (hN : a.toNatClampNeg = N) (hby : N * componentBytes ty ≤ 536870912) (hx : vp_cell cA x = arrV cA N (fun _ => defaultValue ty)) (hc1 : cells + 1 ≤ mC) (hc2 : slots + N ≤ mS)
    (k : Wc Γ nL (pc + 2) L (.ref (bB Γ + n) :: st) (n + 1) (va_up e n (.inl (cA, x))) (cells + 1) (slots + N)) : Wc Γ nL pc L (.int a :: st) n e cells slots := by
  obtain ⟨p, l, ev, R, s, m, args, below, meth, c, Q, g, B⟩ := Γ
  obtain ⟨hxe, hb, hml, hown, hts, hK, hNK, hB, hfr, hlo, hce, hsl, hg⟩ := X
  subst hty
  intro H locs ls hP hS hz hl
  refine va_newaK hxe hb (hts _ harr) rfl hd rfl hn hN hby (Nat.le_trans hc1 hce) (Nat.le_trans hc2 hsl) rfl fun H1 cA' e1 z1 o1 hAr hNm => ?_
  have hcc : cA' = cA := Option.some.inj (hNm.symm.trans (hR s (hK.1.2 t0 _ ht).2))
  subst hcc
  have hk : ∀ (j : Nat) (q : Nat × va_E), (wl B n e)[j]? = some q → H1[q.1]? = H[q.1]? := fun j q hq => o1 q.1 ((hP j q hq).lt)
  have hP1 : va_P g.2.1 vwCl (wl B (n + 1) (va_up e n (.inl (cA', x)))) H1 := by
    rw [← wl_push]
    refine (hP.kept hk).app (fun j q hq => ?_)
    have hz1 : j < 1 := (List.getElem?_eq_some_iff.mp hq).1
    rw [show j = 0 by omega] at hq
    cases hq
    show H1[B + n]? = some (vp_cell _ _)
    rw [hx, ← hz]
    exact e1
  have hre : F0 m (pc + 2) ls (.ref (B + n) :: st) = { (F0 m pc ls (.int a :: st)) with pc := pc + 2, stack := .ref H.size :: st } := by rw [hz]
  rw [← hre]
  exact k H1 locs ls hP1 ⟨Nat.le_trans hS.1 (by omega), fun q h1 h2 => (o1 q (Nat.lt_of_lt_of_le h1 hS.1)).trans (hS.2.1 q h1 h2), hS.2.2⟩ (by omega) hl
set_option maxHeartbeats 4000000 in
theorem wc_new {C : String} {T : u_T} {N ci index : Nat} {fs : List Value} (X : Xc Γ cc nL own d mC mS) (hd : decode cc pc = .ok (.new index, 3)) (hcl : Cond.classLink own index C ∈ TT) (hins : Cond.instantiable C N ∈ TT) (hini : Cond.initialized C ∈ TT) (hin : ∀ w ∈ u_ws C T N, w ∈ TT) (ty : Nat → FieldType) (hty : ∀ k, k < N → parseFieldDescriptor (T k).2.2.1 = some (ty k)) (hc : vwCl[ci]? = some (C, T, N)) (hfs : ∀ j, j < N → defaultValue (ty j) = vp_V fs j) (hc1 : cells + 1 ≤ mC) (hc2 : slots + N ≤ mS)
    (k : Wc Γ nL (pc + 3) L (.ref (bB Γ + n) :: st) (n + 1) (va_up e n (.inr (ci, fs))) (cells + 1) (slots + N)) : Wc Γ nL pc L st n e cells slots := by
  obtain ⟨p, l, ev, R, s, m, args, below, meth, c, Q, g, B⟩ := Γ
  obtain ⟨hxe, hb, hml, hown, hts, hK, hNK, hB, hfr, hlo, hce, hsl, hg⟩ := X
  intro H locs ls hP hS hz hl
  have hKn := hK.1.1 ci _ hc
  refine W.newcK hxe hb hown (hts _ hcl) (hts _ hins) (hts _ hini) rfl hd (Nat.le_trans hc1 hce) (Nat.le_trans hc2 hsl) hKn.2.1 rfl fun H1 kC hkC e1 z1 o1 => ?_
  have hk : ∀ (j : Nat) (q : Nat × va_E), (wl B n e)[j]? = some q → H1[q.1]? = H[q.1]? := fun j q hq => o1 q.1 ((hP j q hq).lt)
  have hP1 : va_P g.2.1 vwCl (wl B (n + 1) (va_up e n (.inr (ci, fs)))) H1 := by
    rw [← wl_push]
    refine (hP.kept hk).app (fun j q hq => ?_)
    have hz1 : j < 1 := (List.getElem?_eq_some_iff.mp hq).1
    rw [show j = 0 by omega] at hq
    cases hq
    rw [← hz]
    exact ⟨_, hc, (u_born ty hts hin hKn hkC e1 hty).to hfs⟩
  have hre : F0 m (pc + 3) ls (.ref (B + n) :: st) = { (F0 m pc ls st) with pc := pc + 3, stack := .ref H.size :: st } := by rw [hz]
  rw [← hre]
  exact k H1 locs ls hP1 ⟨Nat.le_trans hS.1 (by omega), fun q h1 h2 => (o1 q (Nat.lt_of_lt_of_le h1 hS.1)).trans (hS.2.1 q h1 h2), hS.2.2⟩ (by omega) hl
set_option maxHeartbeats 4000000 in
theorem wc_put {C : String} {T : u_T} {N ci index o : Nat} {fs fs' : List Value} {v : Value} (X : Xc Γ cc nL own d mC mS) (hm : (bM Γ).name = "<init>") (ho : o < n) (he : e o = .inr (ci, fs)) (hcl : vwCl[ci]? = some (C, T, N)) (hin : ∀ w ∈ u_ws C T N, w ∈ TT) (ty0 : Nat → FieldType) (hty : ∀ k, k < N → parseFieldDescriptor (T k).2.2.1 = some (ty0 k)) (hnm : ∀ a, a < N → ∀ b, b < N → a ≠ b → (T a).2.1 ≠ (T b).2.1) (k0 : Nat) (hk : k0 < N) (hT : (T k0).1 = C) (hO : C = own) (hlink : Cond.fieldLink own index C (T k0).2.1 (T k0).2.2.1 ∈ TT) (hn : narrow (ty0 k0) v = v) (hfit : fits (ty0 k0) v = true) (hlen : k0 < fs.length) (hfs : fs.set k0 v = fs') (hd : decode cc pc = .ok (.putfield index, 3)) (k : Wc Γ nL (pc + 3) L st n (va_up e o (.inr (ci, fs'))) cells slots) : Wc Γ nL pc L (v :: .ref (bB Γ + o) :: st) n e cells slots := by
  obtain ⟨p, l, ev, R, s, m, args, below, meth, c, Q, g, B⟩ := Γ
  obtain ⟨hxe, hb, hml, hown, hts, hK, hNK, hB, hfr, hlo, hce, hsl, hg⟩ := X
  subst hO
  subst hfs
  intro H locs ls hP hS hz hl
  have hPo : (wl B n e)[o]? = some (B + o, .inr (ci, fs)) := by rw [wl_at ho, he]
  have hap := va_apart (own := C) hts hin ty0 hty hnm hK.1 hcl
  obtain ⟨r, h1, cell, q1, q2, q3, q4⟩ := hP o _ hPo
  have hr : r = (C, T, N) := Option.some.inj (h1.symm.trans hcl)
  subst hr
  obtain ⟨hSl, hfc, kC, hkC, hkind⟩ := hK.1.1 ci _ hcl
  obtain ⟨cf, kf, fi, f, hi, hsi⟩ := hSl k0 hk
  have hlay := u_lays hts hin hk
  have hst := (u_facts hfc hkC hlay hi).1
  have hcf : (Cond.laysFinal C (T k0).1 (T k0).2.1 (T k0).2.2.1).before args s = true → m.cls = cf := by
    intro hlay2
    obtain ⟨_, _, c', _, _, _, -, -, hf', -, -, -, hown2, -⟩ := Cond.laysFinal_spec hlay2
    have e1 : c' = cf := by have := hi.symm.trans hf'; simp at this; exact this.1.symm
    rw [hT] at hown2
    rw [← e1]; exact Option.some.inj (hown.symm.trans hown2)
  have h6 := u_fits hfc hkC hkind hlay hi (hty k0 hk) hn hfit
  have hi' : s.fieldFound? C (T k0).2.1 (T k0).2.2.1 = some (cf, kf, fi, f) := by rw [hT] at hi; exact hi
  have fin : ∀ H' : Heap, H'[B + o]? = some (cell.setSlot f.slot v) → H'.size = H.size → (∀ q, q ≠ B + o → H'[q]? = H[q]?) → W p l ev R s m args below meth c H' (locs ++ [⟨B + o, f.slot⟩]) cells slots Q (F0 m (pc + 3) ls st) := by
    intro H' e1 e2 e3
    have hP1 : va_P g.2.1 vwCl ((wl B n e).set o (B + o, .inr (ci, fs.set k0 v))) H' := hP.set wl_D hPo ⟨_, hcl, t_OB.to (V := updV (vp_V fs) k0 v) ⟨_, e1, q2, q3, by rw [hsi]; exact t_set q4 hap hk v⟩ (fun j _ => vp_updV_set hlen v j)⟩ e3
    rw [wl_set ho] at hP1
    exact k H' _ ls hP1 (hS.put e2 e3 (by show B ≤ B + o; omega)) (by rw [e2]; exact hz) hl
  rcases hlay with hl1 | hl1
  · exact W.putK hxe hb (f := f) ⟨hown, hts _ hlink, ⟨_, _, _, hi'⟩, hst⟩ (by rw [q2]; exact u_store hfc hkC hkind hl1 hi (hty k0 hk) hn hfit) q1 q3 (by rw [hsi]; exact k2_hasslot (q4 k0 hk)) rfl rfl hd (fun H' e1 e2 e3 => fin H' e1 e2 e3)
  · exact W.putFinK hxe hb hown (hts _ hlink) hi' hst (hcf hl1) hm (by rw [q2]; exact h6) q1 q3 (by rw [hsi]; exact k2_hasslot (q4 k0 hk)) rfl rfl hd (fun H' e1 e2 e3 => fin H' e1 e2 e3)
end WC
/-- a constructor of the object that is cell o, of sz cells with all that it makes -/
def CI (l : Launch) (g : GE) (B : Nat) (y : MethodName) (cc : ByteArray) (maxL d mc ms o sz : Nat) (e0 : Nat → va_E) (x0 : va_E) : Prop :=
  Met l y (.code y cc maxL none :: TT) (rmc d mc ms) (fun v U => v = #[.ref (B + o)] ∧ (∃ e : Nat → va_E, e o = x0 ∧ (∀ i, i < o → e i = e0 i) ∧ va_P g.2.1 vwCl (wl B (o + 1) e) U.heap) ∧ U.heap.size = B + (o + 1) ∧ KG g U ∧ NK U ∧ B ≤ U.heap.size)
    (fun _ st oc t => (oc = .returned none ∧ (∃ e : Nat → va_E, (∀ i, o ≤ i → i < o + sz → e i = cz g i) ∧ (∀ i, i < o → e i = e0 i) ∧ va_P g.2.1 vwCl (wl B (o + sz) e) t.heap) ∧ t.heap.size = B + (o + sz)) ∧ va_F (fun q => B ≤ q) st t) mc ms (fun q => B ≤ q)
def RtC (Γ : Cty) (o sz mc ms : Nat) (e0 : Nat → va_E) : Prop := match Γ with
  | (p, l, ev, R, s, m, args, below, meth, c, Q, g, B) => Q = MQ below (fun _ st oc t => (oc = .returned none ∧ (∃ e : Nat → va_E, (∀ i, o ≤ i → i < o + sz → e i = cz g i) ∧ (∀ i, i < o → e i = e0 i) ∧ va_P g.2.1 vwCl (wl B (o + sz) e) t.heap) ∧ t.heap.size = B + (o + sz)) ∧ va_F (fun q => B ≤ q) st t) args s mc ms (fun q => B ≤ q) ∧ meth.sig.returnType = none ∧ meth.locks = false
set_option maxHeartbeats 4000000 in
theorem CI.of {l : Launch} {g : GE} {B : Nat} {y : MethodName} {cc : ByteArray} {maxL d mc ms o sz : Nat} {e0 : Nat → va_E} {x0 : va_E} (hg : g.1 = fun i => B + i) (hy : plainName y.cls = true) (hyn : y.name = "<init>") (hlen : (lg_sl [.ref (B + o)]).length ≤ maxL)
    (body : ∀ (Γ : Cty) (e : Nat → va_E), bL Γ = l → bG Γ = g → bB Γ = B → (bM Γ).name = "<init>" → Xc Γ cc maxL y.cls d mc ms → RtC Γ o sz mc ms e0 → e o = x0 → (∀ i, i < o → e i = e0 i) → Wc Γ maxL 0 [(0, .ref (B + o))] [] (o + 1) e 0 0) : CI l g B y cc maxL d mc ms o sz e0 x0 := by
  refine Met.ofW (cc := cc) (maxL := maxL) (ret := none) hy rfl ?_
  intro p ev s m args below meth c s₁ Bd hml hv
  obtain ⟨rfl, ⟨e, he, hlow, hP⟩, hz, hK, hN, hB⟩ := hv
  have hts := atoms_spec (ws := Cond.code y cc maxL none :: TT) Bd.pre
  have hown : s.vm.findClass y.cls = some m.cls := findClass_of_methodNamed Bd.named
  have hin : meth.name = y.name := (name_of_methodNamed Bd.named Bd.method).1
  have hl := lv_entry [.ref (B + o)] (n := maxL) hlen
  rw [show (#[Value.ref (B + o)] : Array Value) = [Value.ref (B + o)].toArray from rfl, lg_entry_eq]
  exact body (p, l, ev, (headSpec (Cond.code y cc maxL none :: TT) (rmc d mc ms)).room, s, m, #[.ref (B + o)], below, meth, c, _, g, B) e rfl rfl rfl (hin.trans hyn)
    ⟨Bd.exec, Bd.bytes, hml, hown, fun w hw => hts w (List.mem_cons_of_mem _ hw), hK, hN, hB, Nat.le_refl _, Nat.le_refl _, Nat.le_refl _, Nat.le_refl _, hg⟩
    ⟨rfl, Bd.returns, Bd.notSynchronized⟩ he hlow s.heap [] _ hP va_S.rf hz hl
theorem wc_ret {Γ : Cty} {cc : ByteArray} {nL d pc mC mS o sz mc ms : Nat} {own : String} {L : List (Nat × Value)} {e e0 : Nat → va_E} (X : Xc Γ cc nL own d mC mS) (Y : RtC Γ o sz mc ms e0) (hd : decode cc pc = .ok (.return_, 1)) (h1 : ∀ i, o ≤ i → i < o + sz → e i = cz (bG Γ) i) (h2 : ∀ i, i < o → e i = e0 i) : Wc Γ nL pc L [] (o + sz) e mc ms := by
  obtain ⟨p, l, ev, R, s, m, args, below, meth, c, Q, g, B⟩ := Γ
  obtain ⟨rfl, hr, hlk⟩ := Y
  intro H locs ls hP hS hz hl
  exact W.vret X.1 X.2.1 hr (fun t ht hW => ⟨⟨rfl, ⟨e, h1, h2, by rw [ht]; exact hP⟩, by rw [ht]; exact hz⟩, hS.F ht⟩) hS.2.2 hd hlk
set_option maxHeartbeats 4000000 in
/-- a call of a constructor that is private in the nest, right behind new and dup -/
theorem wc_init {Γ : Cty} {cc bytes : ByteArray} {nL d pc mC mS cells slots index maxL d' mc ms n sz : Nat} {own : String} {L : List (Nat × Value)} {st : List Value} {e : Nat → va_E} {x0 : va_E} {y : MethodName} (X : Xc Γ cc nL own d mC mS) (hd : decode cc pc = .ok (.invokespecial index, 3)) (hlink : Cond.methodLinkNest own index y RX10 ∈ nestL ∨ Cond.methodLink own index y ∈ TT) (hw : Cond.instanceMethod y ∈ TT ∧ Cond.code y bytes maxL none ∈ TT ∧ Cond.initialized y.cls ∈ TT) (hyn : y.name = "<init>") (hyd : y.desc = "()V") (hmh : y.cls ≠ "java/lang/invoke/MethodHandle" ∧ y.cls ≠ "java/lang/invoke/VarHandle") (hmax : maxL ≤ 26)
    (hM : CI (bL Γ) (bG Γ) (bB Γ) y bytes maxL d' mc ms n sz (va_up e n x0) x0) (hrest : (st.map fun v => v.category).sum ≤ 8) (hdd : d' + 1 ≤ d) (hc1 : cells + mc ≤ mC) (hc2 : slots + ms ≤ mS)
    (k : ∀ e' : Nat → va_E, (∀ i, n ≤ i → i < n + sz → e' i = cz (bG Γ) i) → (∀ i, i < n → e' i = e i) → Wc Γ nL (pc + 3) L st (n + sz) e' (cells + mc) (slots + ms)) : Wc Γ nL pc L (.ref (bB Γ + n) :: st) (n + 1) (va_up e n x0) cells slots := by
  obtain ⟨p, l, ev, R, s, m, args, below, meth, c, Q, g, B⟩ := Γ
  obtain ⟨hxe, hb, hml, hown, hts, hK, hNK, hB, hfr, hlo, hce, hsl, hg⟩ := X
  obtain ⟨w1, w2, w3⟩ := hw
  intro H locs ls hP hS hz hl
  have hpar : ∀ sig, parseMethodDescriptor y.desc = some sig → 0 = sig.parameters.length := par_len (by rw [hyd]; decide +kernel)
  have hloc : 8 + (maxL + 11) + 45 * d' ≤ R.locals := by omega
  have hpre : PreS s H (fun v U => v = #[.ref (B + n)] ∧ (∃ e1 : Nat → va_E, e1 n = x0 ∧ (∀ i, i < n → e1 i = va_up e n x0 i) ∧ va_P g.2.1 vwCl (wl B (n + 1) e1) U.heap) ∧ U.heap.size = B + (n + 1) ∧ KG g U ∧ NK U ∧ B ≤ U.heap.size) ([.ref (B + n)]) := by
    refine ⟨fun a U f mk h => ⟨h.1, h.2.1, h.2.2.1, KG.moved (u := U) (U := U.calling f mk a) (Vm.Alike.refl U.vm) h.2.2.2.1, NK.same (s := U) (U := U.calling f mk a) rfl h.2.2.2.2.1, h.2.2.2.2.2⟩, fun U hU hW => ⟨rfl, ⟨va_up e n x0, va_up_self _ _ _, fun _ _ => rfl, by rw [hU]; exact hP⟩, by rw [hU]; exact hz, KG.moved hW.alike hK, NK.warm hW hNK, by rw [hU, hz]; omega⟩⟩
  have hrun : va_Run p l ev R s m args below meth c H locs cells slots mc ms (F0 m pc ls (.ref (B + n) :: st)) st ((fun _ st oc t => (oc = .returned none ∧ (∃ e1 : Nat → va_E, (∀ i, n ≤ i → i < n + sz → e1 i = cz g i) ∧ (∀ i, i < n → e1 i = va_up e n x0 i) ∧ va_P g.2.1 vwCl (wl B (n + sz) e1) t.heap) ∧ t.heap.size = B + (n + sz)) ∧ va_F (fun q => B ≤ q) st t : Array Value → State → Outcome → State → Prop) (Value.ref (B + n) :: ([] : List Value)).toArray) (fun q => B ≤ q) := by
    rcases hlink with hl1 | hl1
    · exact va_runIN (n := 0) (As := []) (rest := st) (bytes := bytes) (maxL := maxL) ⟨hxe, hb, hml, hown, hts⟩ hM ⟨⟨⟨rfl, rfl, Nat.le_trans hdd hfr, hloc, TT_warm hts w2, List.mem_cons_self⟩, hts _ w2, hts _ w3, hmh, hpar, va_Nw.use rfl (hNK.1 _ hl1)⟩, hyn, hts _ w1⟩ hpre rfl rfl hl.1 rfl (lv_room hrest) hd ⟨Nat.le_trans hc1 hce, Nat.le_trans hc2 hsl⟩
    · exact va_runI (n := 0) (As := []) (rest := st) (bytes := bytes) (maxL := maxL) ⟨hxe, hb, hml, hown, hts⟩ hM ⟨⟨rfl, rfl, Nat.le_trans hdd hfr, hloc, TT_warm hts w2, List.mem_cons_self, hts _ w2, hts _ w3, hmh, hpar, hts _ hl1⟩, hyn, hts _ w1⟩ hpre rfl rfl hl.1 rfl (lv_room hrest) hd ⟨Nat.le_trans hc1 hce, Nat.le_trans hc2 hsl⟩
  intro T hT X
  obtain ⟨v, st₀, t, T', L1, h0, X', hL, e1, e2, ⟨⟨hv, ⟨e', g1, g2, g3⟩, gz⟩, hzz, hk⟩, stp⟩ := hrun T hT X
  cases hv
  rw [h0] at hzz hk
  obtain ⟨t2, a1, b1⟩ := k e' g1 (fun i hi => by rw [g2 i hi, va_up_ne _ _ (by omega)]) T'.heap (locs ++ L1) ls (by rw [e1]; exact g3)
    ⟨Nat.le_trans hS.1 (by rw [e1]; exact hzz), fun q h1 h2 => by rw [e1, hk q (Nat.lt_of_lt_of_le h1 hS.1) h2]; exact hS.2.1 q h1 h2, fun q hq => by
      rcases List.mem_append.mp hq with h | h
      · exact hS.2.2 q h
      · exact hL q h⟩ (by rw [e1]; exact gz) hl T' rfl X'
  exact ⟨t2, stp t2 a1, b1⟩
