/-! The fixed world: cells by their numbers, in the order in which they are made; what changes is I (ints) and J (longs). -/
abbrev MI : Type := Nat → Nat → Int32
abbrev MJ : Type := Nat → Nat → Int64
/-- addresses of the cells, the classes' numbers and slots, the classes of arrays: int, long, boolean, Place -/
abbrev GE : Type := (Nat → Nat) × va_G × ClassId × ClassId × ClassId × ClassId
def tysG (g : GE) : List (ClassId × FieldType) := [(g.2.2.1, .int), (g.2.2.2.1, .long), (g.2.2.2.2.1, .boolean), (g.2.2.2.2.2, .object RX4)]
theorem dc_moved {x : MethodName} {u U : State} (hvm : u.vm.Alike U.vm) (hZ : va_Nw (.declares x) u) : va_Nw (.declares x) U := va_tabs rfl (rfl : (u.setVm U.vm).vm = U.vm) (by rw [Cond.declares_setVm hvm]; exact hZ)
def KG (g : GE) (U : State) : Prop := va_K g.2.1 vwCl (tysG g) U ∧ va_Nw (.declares ⟨RX8, "firstKey", "()I"⟩) U ∧ va_Nw (.declares ⟨RX8, "nextKey", "(II)I"⟩) U ∧ va_Nw (.declares ⟨RX8, "answerAt", "(I)I"⟩) U
theorem KG.moved {g : GE} {u U : State} (hvm : u.vm.Alike U.vm) (h : KG g u) : KG g U := ⟨va_K.moved hvm h.1, dc_moved hvm h.2.1, dc_moved hvm h.2.2.1, dc_moved hvm h.2.2.2⟩
def NC : Nat := 221
/-- what each cell is: below 20 an object of that class of vwCl; 20 ints, 21 booleans, 22 longs, 23 the desk -/
def shp : List (Nat × Nat) := [(8, 0), (23, 16), (0, 0), (20, 225), (20, 225), (20, 512), (22, 225), (20, 900), (20, 225), (20, 225), (20, 225), (20, 14), (1, 0), (3, 0), (20, 14), (20, 56), (20, 56), (20, 14), (3, 0), (20, 14), (20, 56), (20, 56), (20, 14), (7, 0), (22, 1736), (20, 224), (6, 0), (3, 0), (20, 14), (20, 56), (20, 56), (20, 14), (22, 6), (22, 175), (22, 13), (22, 6), (22, 2048), (5, 0), (3, 0), (20, 14), (20, 56), (20, 56), (20, 14), (3, 0), (20, 14), (20, 56), (20, 56), (20, 14), (22, 14), (22, 14), (20, 14), (20, 196), (2, 0), (22, 12), (20, 12), (20, 12), (20, 12), (20, 12), (20, 12), (20, 56), (3, 0), (20, 14), (20, 56), (20, 56), (20, 14), (4, 0), (3, 0), (20, 14), (20, 56), (20, 56), (20, 14), (22, 8), (4, 0), (3, 0), (20, 14), (20, 56), (20, 56), (20, 14), (22, 8), (4, 0), (3, 0), (20, 14), (20, 56), (20, 56), (20, 14), (22, 8), (4, 0), (3, 0), (20, 14), (20, 56), (20, 56), (20, 14), (22, 8), (4, 0), (3, 0), (20, 14), (20, 56), (20, 56), (20, 14), (22, 8), (4, 0), (3, 0), (20, 14), (20, 56), (20, 56), (20, 14), (22, 8), (4, 0), (3, 0), (20, 14), (20, 56), (20, 56), (20, 14), (22, 8), (4, 0), (3, 0), (20, 14), (20, 56), (20, 56), (20, 14), (22, 8), (4, 0), (3, 0), (20, 14), (20, 56), (20, 56), (20, 14), (22, 8), (4, 0), (3, 0), (20, 14), (20, 56), (20, 56), (20, 14), (22, 8), (4, 0), (3, 0), (20, 14), (20, 56), (20, 56), (20, 14), (22, 8), (4, 0), (3, 0), (20, 14), (20, 56), (20, 56), (20, 14), (22, 8), (4, 0), (3, 0), (20, 14), (20, 56), (20, 56), (20, 14), (22, 8), (4, 0), (3, 0), (20, 14), (20, 56), (20, 56), (20, 14), (22, 8), (4, 0), (3, 0), (20, 14), (20, 56), (20, 56), (20, 14), (22, 8), (4, 0), (3, 0), (20, 14), (20, 56), (20, 56), (20, 14), (22, 8), (9, 0), (20, 16), (20, 16), (22, 128), (20, 16), (20, 16), (21, 16), (20, 20), (20, 20), (20, 20), (20, 280), (20, 280), (20, 1120), (20, 1120), (20, 57), (20, 57), (22, 57), (20, 228), (21, 256), (20, 16), (22, 280), (20, 4), (20, 4), (22, 1736), (20, 256), (20, 256), (22, 256), (21, 256), (20, 512), (20, 512), (20, 2048), (21, 512), (20, 512), (20, 512), (22, 6000), (22, 32), (22, 16), (22, 16), (22, 32), (22, 64), (22, 12), (20, 12), (20, 64), (20, 12)]
theorem shp_len : shp.length = NC := by decide +kernel
def flds (ad : Nat → Nat) (c : Nat) (f : Nat → Int32) (h : Nat → Int64) (o : Nat) : List Value := match c with
  | 0 => [.int (f 0), .int (f 1), .int (f 2), .ref (ad (o + 1)), .ref (ad (o + 2)), .ref (ad (o + 3)), .ref (ad (o + 4)), .ref (ad (o + 5)), .ref (ad (o + 6)), .ref (ad (o + 7)), .ref (ad (o + 8)), .ref (ad (o + 9))]
  | 1 => [.ref (ad (o + 1)), .ref (ad (o + 6)), .int (f 2), .int (f 3), .int (f 4)]
  | 2 => [.int (f 0), .ref (ad (o + 1)), .ref (ad (o + 2)), .ref (ad (o + 3)), .ref (ad (o + 4)), .ref (ad (o + 5)), .ref (ad (o + 6)), .ref (ad (o + 7))]
  | 3 => [.int (f 0), .int (f 1), .int (f 2), .ref (ad (o + 1)), .ref (ad (o + 2)), .ref (ad (o + 3)), .ref (ad (o + 4))]
  | 4 => [.int (f 0), .ref (ad (o + 1)), .int (f 2), .int (f 3), .ref (ad (o + 6)), .int (f 5), .int (f 6)]
  | 5 => [.int (f 0), .int (f 1), .int (f 2), .int (f 3), .int (f 4), .long (h 5), .ref (ad (o + 1)), .ref (ad (o + 6)), .ref (ad (o + 11)), .ref (ad (o + 12)), .ref (ad (o + 13)), .ref (ad (o + 14))]
  | 6 => [.ref (ad (o + 1)), .int (f 1), .int (f 2), .int (f 3), .ref (ad (o + 6)), .ref (ad (o + 7)), .ref (ad (o + 8)), .ref (ad (o + 9)), .ref (ad (o + 10))]
  | 7 => [.ref (ad (o + 1)), .ref (ad (o + 2))]
  | 8 => [.ref (ad (o + 1)), .ref (ad (o + 2)), .ref (ad (o + 12)), .ref (ad (o + 23)), .ref (ad (o + 26)), .ref (ad (o + 37)), .ref (ad (o + 52)), .ref (ad (o + 60)), .int (f 8)]
  | _ => [.ref (ad (o + 1)), .ref (ad (o + 2)), .ref (ad (o + 3)), .ref (ad (o + 4)), .ref (ad (o + 5)), .ref (ad (o + 6)), .ref (ad (o + 7)), .ref (ad (o + 8)), .ref (ad (o + 9)), .ref (ad (o + 10)), .ref (ad (o + 11)), .ref (ad (o + 12)), .ref (ad (o + 13)), .int (f 13), .int (f 14), .int (f 15), .int (f 16), .ref (ad (o + 14)), .ref (ad (o + 15)), .ref (ad (o + 16)), .ref (ad (o + 17)), .ref (ad (o + 18)), .ref (ad (o + 19)), .ref (ad (o + 20)), .ref (ad (o + 21)), .ref (ad (o + 22)), .int (f 26), .ref (ad (o + 23)), .ref (ad (o + 24)), .ref (ad (o + 25)), .ref (ad (o + 26)), .ref (ad (o + 27)), .int (f 32), .ref (ad (o + 28)), .ref (ad (o + 29)), .ref (ad (o + 30)), .ref (ad (o + 31)), .ref (ad (o + 32)), .ref (ad (o + 33)), .int (f 39), .int (f 40), .ref (ad (o + 34)), .int (f 42), .ref (ad (o + 35)), .ref (ad (o + 36)), .ref (ad (o + 37)), .int (f 46), .int (f 47), .int (f 48), .int (f 49), .int (f 50), .ref (ad (o + 38)), .ref (ad (o + 39)), .int (f 53), .int (f 54), .long (h 55), .int (f 56), .ref (ad (o + 40)), .ref (ad (o + 41)), .int (f 59), .ref (ad (o + 42)), .ref (ad (o + 43))]
def cel (g : GE) (f : Nat → Int32) (h : Nat → Int64) (i : Nat) : va_E := match shp[i]? with
  | some q => if q.1 = 20 then .inl (g.2.2.1, q.2, .inl f) else if q.1 = 21 then .inl (g.2.2.2.2.1, q.2, .inl f) else if q.1 = 22 then .inl (g.2.2.2.1, q.2, .inr (.inl h)) else if q.1 = 23 then .inl (g.2.2.2.2.2, q.2, .inr (.inr (.inr (.inr (fun k => some (g.1 (i + 64 + 7 * k))))))) else .inr (q.1, flds g.1 q.1 f h i)
  | none => .inr (0, [])
def wd (g : GE) (I : MI) (J : MJ) : va_W := (List.range NC).map (fun i => (g.1 i, cel g (I i) (J i) i))
theorem wd_at (g : GE) (I : MI) (J : MJ) {i : Nat} (h : i < NC) : (wd g I J)[i]? = some (g.1 i, cel g (I i) (J i) i) := by
  simp [wd, List.getElem?_map, List.getElem?_range h]
theorem wd_out (g : GE) (I : MI) (J : MJ) {i : Nat} (h : ¬ i < NC) : (wd g I J)[i]? = none := by
  simp [wd]
  omega
theorem shp_lt {i : Nat} {q : Nat × Nat} (h : shp[i]? = some q) : i < NC := by
  have := (List.getElem?_eq_some_iff.mp h).1
  rw [shp_len] at this
  exact this
theorem cel_i {g : GE} {f : Nat → Int32} {h : Nat → Int64} {i n : Nat} (hs : shp[i]? = some (20, n)) : cel g f h i = .inl (g.2.2.1, n, .inl f) := by
  unfold cel; rw [hs]; simp
theorem cel_z {g : GE} {f : Nat → Int32} {h : Nat → Int64} {i n : Nat} (hs : shp[i]? = some (21, n)) : cel g f h i = .inl (g.2.2.2.2.1, n, .inl f) := by
  unfold cel; rw [hs]; simp
theorem cel_j {g : GE} {f : Nat → Int32} {h : Nat → Int64} {i n : Nat} (hs : shp[i]? = some (22, n)) : cel g f h i = .inl (g.2.2.2.1, n, .inr (.inl h)) := by
  unfold cel; rw [hs]; simp
theorem cel_p {g : GE} {f : Nat → Int32} {h : Nat → Int64} {i n : Nat} (hs : shp[i]? = some (23, n)) : cel g f h i = .inl (g.2.2.2.2.2, n, .inr (.inr (.inr (.inr (fun k => some (g.1 (i + 64 + 7 * k))))))) := by
  unfold cel; rw [hs]; simp
theorem cel_o {g : GE} {f : Nat → Int32} {h : Nat → Int64} {i n c : Nat} (hs : shp[i]? = some (c, n)) (hc : c < 20) : cel g f h i = .inr (c, flds g.1 c f h i) := by
  unfold cel; rw [hs]
  simp only []
  rw [if_neg (by omega), if_neg (by omega), if_neg (by omega), if_neg (by omega)]
def sI (I : MI) (o : Nat) (f : Nat → Int32) : MI := fun i => if i = o then f else I i
def sJ (J : MJ) (o : Nat) (f : Nat → Int64) : MJ := fun i => if i = o then f else J i
theorem sI_s (I : MI) (o : Nat) (f : Nat → Int32) : sI I o f o = f := by simp [sI]
theorem sI_n (I : MI) {o i : Nat} (f : Nat → Int32) (h : i ≠ o) : sI I o f i = I i := by simp [sI, h]
theorem sJ_s (J : MJ) (o : Nat) (f : Nat → Int64) : sJ J o f o = f := by simp [sJ]
theorem sJ_n (J : MJ) {o i : Nat} (f : Nat → Int64) (h : i ≠ o) : sJ J o f i = J i := by simp [sJ, h]
theorem wd_setI (g : GE) (I : MI) (J : MJ) {o : Nat} (f : Nat → Int32) : (wd g I J).set o (g.1 o, cel g f (J o) o) = wd g (sI I o f) J := by
  apply List.ext_getElem?
  intro i
  by_cases hi : i < NC
  · by_cases ho : o = i
    · subst ho
      rw [List.getElem?_set_self (by simp [wd]; exact hi), wd_at g _ _ hi, sI_s]
    · rw [List.getElem?_set_ne ho, wd_at g _ _ hi, wd_at g _ _ hi, sI_n _ _ (Ne.symm ho)]
  · rw [wd_out g _ _ hi]
    simp [wd]
    omega
theorem wd_setJ (g : GE) (I : MI) (J : MJ) {o : Nat} (f : Nat → Int64) : (wd g I J).set o (g.1 o, cel g (I o) f o) = wd g I (sJ J o f) := by
  apply List.ext_getElem?
  intro i
  by_cases hi : i < NC
  · by_cases ho : o = i
    · subst ho
      rw [List.getElem?_set_self (by simp [wd]; exact hi), wd_at g _ _ hi, sJ_s]
    · rw [List.getElem?_set_ne ho, wd_at g _ _ hi, wd_at g _ _ hi, sJ_n _ _ (Ne.symm ho)]
  · rw [wd_out g _ _ hi]
    simp [wd]
    omega
/-- the words that every method has -/
def TT : List Cond := lw_tbl.filter goodWord
theorem TT_in {w : Cond} (h : w ∈ lw_tbl) (hg : goodWord w = true) : w ∈ TT := List.mem_filter.mpr ⟨h, hg⟩
theorem TT_at {w : Cond} (i : Nat) (h : lw_tbl[i]? = some w) (hg : goodWord w = true) : w ∈ TT := TT_in (List.mem_of_getElem? h) hg
theorem TT_all {ws : List Cond} (h : ws.all (fun w => decide (w ∈ lw_tbl) && goodWord w) = true) : ∀ w ∈ ws, w ∈ TT := fun w hw => by
  have := List.all_eq_true.mp h w hw
  simp only [Bool.and_eq_true, decide_eq_true_eq] at this
  exact TT_in this.1 this.2
theorem TT_good {x : Cond} : GoodIn (x :: TT) TT := fun _ h => ⟨List.mem_cons_of_mem _ h, good_of_word (List.mem_filter.mp h).2⟩
abbrev rmd (d : Nat) : Room := { frames := d, cells := 0, slots := 0, locals := 45 * d }
/-- a method's surroundings -/
abbrev Ctx : Type := Program × Launch × Env × Room × State × MethodId × Array Value × List Frame × Method × Code × Nat × Nat × (State → Prop) × (Nat → Prop) × GE
abbrev cxL (Γ : Ctx) : Launch := Γ.2.1
abbrev cxG (Γ : Ctx) : GE := Γ.2.2.2.2.2.2.2.2.2.2.2.2.2.2
abbrev ad (Γ : Ctx) : Nat → Nat := Γ.2.2.2.2.2.2.2.2.2.2.2.2.2.2.1
def Wp (Γ : Ctx) (nL pc : Nat) (L : List (Nat × Value)) (st : List Value) (I : MI) (J : MJ) : Prop := match Γ with
  | (p, l, e, R, s, m, args, below, meth, c, cells, slots, Q, A, g) => ∀ (H : Heap) (locs : List Loc) (ls : Array Slot), va_P g.2.1 vwCl (wd g I J) H → va_S A s.heap H locs → lv_has ls nL L → W p l e R s m args below meth c H locs cells slots Q (F0 m pc ls st)
def Cx (Γ : Ctx) (cc : ByteArray) (nL : Nat) (own : String) (d : Nat) : Prop := match Γ with
  | (p, l, e, R, s, m, args, below, meth, c, cells, slots, Q, A, g) => p.tables.exec = Jvm.exec ∧ c.code = cc ∧ c.maxLocals = nL ∧ s.vm.findClass own = some m.cls ∧ (∀ w ∈ TT, w.before args s = true) ∧ KG g s ∧ (∀ i j, i < NC → j < NC → g.1 i = g.1 j → i = j) ∧ (∀ i, i < NC → A (g.1 i)) ∧ d ≤ R.frames ∧ 45 * d ≤ R.locals ∧ cells ≤ R.cells ∧ slots ≤ R.slots
theorem wd_D {g : GE} {A : Nat → Prop} {I : MI} {J : MJ} (hi : ∀ i j, i < NC → j < NC → g.1 i = g.1 j → i = j) (hA : ∀ i, i < NC → A (g.1 i)) : va_D A (wd g I J) := by
  have key : ∀ (k : Nat) (q : Nat × va_E), (wd g I J)[k]? = some q → k < NC ∧ q.1 = g.1 k := by
    intro k q h
    by_cases hk : k < NC
    · rw [wd_at g _ _ hk] at h
      cases h
      exact ⟨hk, rfl⟩
    · rw [wd_out g _ _ hk] at h
      cases h
  refine ⟨fun i j p q h1 h2 he => ?_, fun k q h => ?_⟩
  · obtain ⟨a1, a2⟩ := key i p h1
    obtain ⟨b1, b2⟩ := key j q h2
    exact hi i j a1 b1 (by rw [← a2, ← b2]; exact he)
  · obtain ⟨a1, a2⟩ := key k q h
    rw [a2]
    exact hA k a1

theorem wp_iconst {Γ : Ctx} {cc : ByteArray} {nL d pc : Nat} {own : String} {L : List (Nat × Value)} {st : List Value} {I : MI} {J : MJ}  {n : Int} {v : Int32} (X : Cx Γ cc nL own d) (hd : decode cc pc = .ok (.iconst n, 1)) (hv : Int32.ofInt n = v) (k : Wp Γ nL (pc + 1) L (.int v :: st) I J) : Wp Γ nL pc L st I J := by
  obtain ⟨p, l, e, R, s, m, args, below, meth, c, cells, slots, Q, A, g⟩ := Γ
  exact fun H locs ls hP hS hl => lv_iconst X.1 X.2.1 hd hv (k H locs ls hP hS hl)
theorem wp_bipush {Γ : Ctx} {cc : ByteArray} {nL d pc : Nat} {own : String} {L : List (Nat × Value)} {st : List Value} {I : MI} {J : MJ}  {n : Int} {v : Int32} (X : Cx Γ cc nL own d) (hd : decode cc pc = .ok (.bipush n, 2)) (hv : (Int8.ofInt n).toInt32 = v) (k : Wp Γ nL (pc + 2) L (.int v :: st) I J) : Wp Γ nL pc L st I J := by
  obtain ⟨p, l, e, R, s, m, args, below, meth, c, cells, slots, Q, A, g⟩ := Γ
  exact fun H locs ls hP hS hl => lv_bipush X.1 X.2.1 hd hv (k H locs ls hP hS hl)
theorem wp_sipush {Γ : Ctx} {cc : ByteArray} {nL d pc : Nat} {own : String} {L : List (Nat × Value)} {st : List Value} {I : MI} {J : MJ}  {n : Int} {v : Int32} (X : Cx Γ cc nL own d) (hd : decode cc pc = .ok (.sipush n, 3)) (hv : (Int16.ofInt n).toInt32 = v) (k : Wp Γ nL (pc + 3) L (.int v :: st) I J) : Wp Γ nL pc L st I J := by
  obtain ⟨p, l, e, R, s, m, args, below, meth, c, cells, slots, Q, A, g⟩ := Γ
  exact fun H locs ls hP hS hl => lv_sipush X.1 X.2.1 hd hv (k H locs ls hP hS hl)
theorem wp_lconst {Γ : Ctx} {cc : ByteArray} {nL d pc : Nat} {own : String} {L : List (Nat × Value)} {st : List Value} {I : MI} {J : MJ}  {n : Fin 2} {v : Int64} (X : Cx Γ cc nL own d) (hd : decode cc pc = .ok (.lconst n, 1)) (hv : Int64.ofNat (n : Nat) = v) (k : Wp Γ nL (pc + 1) L (.long v :: st) I J) : Wp Γ nL pc L st I J := by
  obtain ⟨p, l, e, R, s, m, args, below, meth, c, cells, slots, Q, A, g⟩ := Γ
  exact fun H locs ls hP hS hl => lv_lconst X.1 X.2.1 hd hv (k H locs ls hP hS hl)
theorem wp_iload_n {Γ : Ctx} {cc : ByteArray} {nL d pc : Nat} {own : String} {L : List (Nat × Value)} {st : List Value} {I : MI} {J : MJ} {k0 : Fin 4} {x : Int32} (X : Cx Γ cc nL own d) (hd : decode cc pc = .ok (.iload_n k0, 1)) (j : Nat) (hj : L[j]? = some ((k0 : Nat), .int x)) (k : Wp Γ nL (pc + 1) L (.int x :: st) I J) : Wp Γ nL pc L st I J := by
  obtain ⟨p, l, e, R, s, m, args, below, meth, c, cells, slots, Q, A, g⟩ := Γ
  exact fun H locs ls hP hS hl => lv_iload_n X.1 X.2.1 hd rfl (lv_at hl j hj) (k H locs ls hP hS hl)
theorem wp_iload {Γ : Ctx} {cc : ByteArray} {nL d pc : Nat} {own : String} {L : List (Nat × Value)} {st : List Value} {I : MI} {J : MJ} {i : Nat} {x : Int32} (X : Cx Γ cc nL own d) (hd : decode cc pc = .ok (.iload i, 2)) (j : Nat) (hj : L[j]? = some (i, .int x)) (k : Wp Γ nL (pc + 2) L (.int x :: st) I J) : Wp Γ nL pc L st I J := by
  obtain ⟨p, l, e, R, s, m, args, below, meth, c, cells, slots, Q, A, g⟩ := Γ
  exact fun H locs ls hP hS hl => lv_iload X.1 X.2.1 hd (lv_at hl j hj) (k H locs ls hP hS hl)
theorem wp_istore_n {Γ : Ctx} {cc : ByteArray} {nL d pc : Nat} {own : String} {L : List (Nat × Value)} {st : List Value} {I : MI} {J : MJ} {k0 : Fin 4} {i : Nat} {x : Int32} {L' : List (Nat × Value)} (X : Cx Γ cc nL own d) (hd : decode cc pc = .ok (.istore_n k0, 1)) (hi : (k0 : Nat) = i) (hn : i < nL) (hl : (i, Value.int x) :: L.filter (fun q => !(q.1 == i) && !(q.1 + 1 == i && q.2.category == 2)) = L') (k : Wp Γ nL (pc + 1) L' st I J) : Wp Γ nL pc L (.int x :: st) I J := by
  obtain ⟨p, l, e, R, s, m, args, below, meth, c, cells, slots, Q, A, g⟩ := Γ
  exact fun H locs ls hP hS hl0 => lv_istore_n X.1 X.2.1 hd hi hl0 hn hl (fun ls' hl' => k H locs ls' hP hS hl')
theorem wp_istore {Γ : Ctx} {cc : ByteArray} {nL d pc : Nat} {own : String} {L : List (Nat × Value)} {st : List Value} {I : MI} {J : MJ} {i : Nat} {x : Int32} {L' : List (Nat × Value)} (X : Cx Γ cc nL own d) (hd : decode cc pc = .ok (.istore i, 2)) (hn : i < nL) (hl : (i, Value.int x) :: L.filter (fun q => !(q.1 == i) && !(q.1 + 1 == i && q.2.category == 2)) = L') (k : Wp Γ nL (pc + 2) L' st I J) : Wp Γ nL pc L (.int x :: st) I J := by
  obtain ⟨p, l, e, R, s, m, args, below, meth, c, cells, slots, Q, A, g⟩ := Γ
  exact fun H locs ls hP hS hl0 => lv_istore X.1 X.2.1 hd hl0 hn hl (fun ls' hl' => k H locs ls' hP hS hl')
theorem wp_lload_n {Γ : Ctx} {cc : ByteArray} {nL d pc : Nat} {own : String} {L : List (Nat × Value)} {st : List Value} {I : MI} {J : MJ} {k0 : Fin 4} {x : Int64} (X : Cx Γ cc nL own d) (hd : decode cc pc = .ok (.lload_n k0, 1)) (j : Nat) (hj : L[j]? = some ((k0 : Nat), .long x)) (k : Wp Γ nL (pc + 1) L (.long x :: st) I J) : Wp Γ nL pc L st I J := by
  obtain ⟨p, l, e, R, s, m, args, below, meth, c, cells, slots, Q, A, g⟩ := Γ
  exact fun H locs ls hP hS hl => lv_lload_n X.1 X.2.1 hd rfl (lv_at hl j hj) (k H locs ls hP hS hl)
theorem wp_lload {Γ : Ctx} {cc : ByteArray} {nL d pc : Nat} {own : String} {L : List (Nat × Value)} {st : List Value} {I : MI} {J : MJ} {i : Nat} {x : Int64} (X : Cx Γ cc nL own d) (hd : decode cc pc = .ok (.lload i, 2)) (j : Nat) (hj : L[j]? = some (i, .long x)) (k : Wp Γ nL (pc + 2) L (.long x :: st) I J) : Wp Γ nL pc L st I J := by
  obtain ⟨p, l, e, R, s, m, args, below, meth, c, cells, slots, Q, A, g⟩ := Γ
  exact fun H locs ls hP hS hl => lv_lload X.1 X.2.1 hd (lv_at hl j hj) (k H locs ls hP hS hl)
theorem wp_lstore_n {Γ : Ctx} {cc : ByteArray} {nL d pc : Nat} {own : String} {L : List (Nat × Value)} {st : List Value} {I : MI} {J : MJ} {k0 : Fin 4} {i : Nat} {x : Int64} {L' : List (Nat × Value)} (X : Cx Γ cc nL own d) (hd : decode cc pc = .ok (.lstore_n k0, 1)) (hi : (k0 : Nat) = i) (hn : i + 1 < nL) (hl : (i, Value.long x) :: L.filter (fun q => !(q.1 == i) && (!(q.1 == i + 1) && !(q.1 + 1 == i && q.2.category == 2))) = L') (k : Wp Γ nL (pc + 1) L' st I J) : Wp Γ nL pc L (.long x :: st) I J := by
  obtain ⟨p, l, e, R, s, m, args, below, meth, c, cells, slots, Q, A, g⟩ := Γ
  exact fun H locs ls hP hS hl0 => lv_lstore_n X.1 X.2.1 hd hi hl0 hn hl (fun ls' hl' => k H locs ls' hP hS hl')
theorem wp_lstore {Γ : Ctx} {cc : ByteArray} {nL d pc : Nat} {own : String} {L : List (Nat × Value)} {st : List Value} {I : MI} {J : MJ} {i : Nat} {x : Int64} {L' : List (Nat × Value)} (X : Cx Γ cc nL own d) (hd : decode cc pc = .ok (.lstore i, 2)) (hn : i + 1 < nL) (hl : (i, Value.long x) :: L.filter (fun q => !(q.1 == i) && (!(q.1 == i + 1) && !(q.1 + 1 == i && q.2.category == 2))) = L') (k : Wp Γ nL (pc + 2) L' st I J) : Wp Γ nL pc L (.long x :: st) I J := by
  obtain ⟨p, l, e, R, s, m, args, below, meth, c, cells, slots, Q, A, g⟩ := Γ
  exact fun H locs ls hP hS hl0 => lv_lstore X.1 X.2.1 hd hl0 hn hl (fun ls' hl' => k H locs ls' hP hS hl')
theorem wp_aload_n {Γ : Ctx} {cc : ByteArray} {nL d pc : Nat} {own : String} {L : List (Nat × Value)} {st : List Value} {I : MI} {J : MJ} {k0 : Fin 4} {x : Nat} (X : Cx Γ cc nL own d) (hd : decode cc pc = .ok (.aload_n k0, 1)) (j : Nat) (hj : L[j]? = some ((k0 : Nat), .ref x)) (k : Wp Γ nL (pc + 1) L (.ref x :: st) I J) : Wp Γ nL pc L st I J := by
  obtain ⟨p, l, e, R, s, m, args, below, meth, c, cells, slots, Q, A, g⟩ := Γ
  exact fun H locs ls hP hS hl => lv_aload_n X.1 X.2.1 hd rfl (lv_at hl j hj) (k H locs ls hP hS hl)
theorem wp_aload {Γ : Ctx} {cc : ByteArray} {nL d pc : Nat} {own : String} {L : List (Nat × Value)} {st : List Value} {I : MI} {J : MJ} {i : Nat} {x : Nat} (X : Cx Γ cc nL own d) (hd : decode cc pc = .ok (.aload i, 2)) (j : Nat) (hj : L[j]? = some (i, .ref x)) (k : Wp Γ nL (pc + 2) L (.ref x :: st) I J) : Wp Γ nL pc L st I J := by
  obtain ⟨p, l, e, R, s, m, args, below, meth, c, cells, slots, Q, A, g⟩ := Γ
  exact fun H locs ls hP hS hl => lv_aload X.1 X.2.1 hd (lv_at hl j hj) (k H locs ls hP hS hl)
theorem wp_astore_n {Γ : Ctx} {cc : ByteArray} {nL d pc : Nat} {own : String} {L : List (Nat × Value)} {st : List Value} {I : MI} {J : MJ} {k0 : Fin 4} {i : Nat} {x : Nat} {L' : List (Nat × Value)} (X : Cx Γ cc nL own d) (hd : decode cc pc = .ok (.astore_n k0, 1)) (hi : (k0 : Nat) = i) (hn : i < nL) (hl : (i, Value.ref x) :: L.filter (fun q => !(q.1 == i) && !(q.1 + 1 == i && q.2.category == 2)) = L') (k : Wp Γ nL (pc + 1) L' st I J) : Wp Γ nL pc L (.ref x :: st) I J := by
  obtain ⟨p, l, e, R, s, m, args, below, meth, c, cells, slots, Q, A, g⟩ := Γ
  exact fun H locs ls hP hS hl0 => lv_astore_n X.1 X.2.1 hd hi hl0 hn hl (fun ls' hl' => k H locs ls' hP hS hl')
theorem wp_astore {Γ : Ctx} {cc : ByteArray} {nL d pc : Nat} {own : String} {L : List (Nat × Value)} {st : List Value} {I : MI} {J : MJ} {i : Nat} {x : Nat} {L' : List (Nat × Value)} (X : Cx Γ cc nL own d) (hd : decode cc pc = .ok (.astore i, 2)) (hn : i < nL) (hl : (i, Value.ref x) :: L.filter (fun q => !(q.1 == i) && !(q.1 + 1 == i && q.2.category == 2)) = L') (k : Wp Γ nL (pc + 2) L' st I J) : Wp Γ nL pc L (.ref x :: st) I J := by
  obtain ⟨p, l, e, R, s, m, args, below, meth, c, cells, slots, Q, A, g⟩ := Γ
  exact fun H locs ls hP hS hl0 => lv_astore X.1 X.2.1 hd hl0 hn hl (fun ls' hl' => k H locs ls' hP hS hl')
theorem wp_iinc {Γ : Ctx} {cc : ByteArray} {nL d pc : Nat} {own : String} {L : List (Nat × Value)} {st : List Value} {I : MI} {J : MJ} {i : Nat} {n : Int} {x v : Int32} {L' : List (Nat × Value)} (X : Cx Γ cc nL own d) (hd : decode cc pc = .ok (.iinc i n, 3)) (j : Nat) (hj : L[j]? = some (i, .int x)) (hv : x + Int32.ofInt n = v) (hn : i < nL) (hl : (i, Value.int v) :: L.filter (fun q => !(q.1 == i) && !(q.1 + 1 == i && q.2.category == 2)) = L') (k : Wp Γ nL (pc + 3) L' st I J) : Wp Γ nL pc L st I J := by
  obtain ⟨p, l, e, R, s, m, args, below, meth, c, cells, slots, Q, A, g⟩ := Γ
  exact fun H locs ls hP hS hl0 => lv_iinc X.1 X.2.1 hd hl0 hj hv hn hl (fun ls' hl' => k H locs ls' hP hS hl')
theorem wp_iadd {Γ : Ctx} {cc : ByteArray} {nL d pc : Nat} {own : String} {L : List (Nat × Value)} {st : List Value} {I : MI} {J : MJ} {x y : Int32} (X : Cx Γ cc nL own d) (hd : decode cc pc = .ok (.iadd, 1)) (k : Wp Γ nL (pc + 1) L (.int (x + y) :: st) I J) : Wp Γ nL pc L (.int y :: .int x :: st) I J := by
  obtain ⟨p, l, e, R, s, m, args, below, meth, c, cells, slots, Q, A, g⟩ := Γ
  exact fun H locs ls hP hS hl => lv_iadd X.1 X.2.1 hd (k H locs ls hP hS hl)
theorem wp_isub {Γ : Ctx} {cc : ByteArray} {nL d pc : Nat} {own : String} {L : List (Nat × Value)} {st : List Value} {I : MI} {J : MJ} {x y : Int32} (X : Cx Γ cc nL own d) (hd : decode cc pc = .ok (.isub, 1)) (k : Wp Γ nL (pc + 1) L (.int (x - y) :: st) I J) : Wp Γ nL pc L (.int y :: .int x :: st) I J := by
  obtain ⟨p, l, e, R, s, m, args, below, meth, c, cells, slots, Q, A, g⟩ := Γ
  exact fun H locs ls hP hS hl => lv_isub X.1 X.2.1 hd (k H locs ls hP hS hl)
theorem wp_imul {Γ : Ctx} {cc : ByteArray} {nL d pc : Nat} {own : String} {L : List (Nat × Value)} {st : List Value} {I : MI} {J : MJ} {x y : Int32} (X : Cx Γ cc nL own d) (hd : decode cc pc = .ok (.imul, 1)) (k : Wp Γ nL (pc + 1) L (.int (x * y) :: st) I J) : Wp Γ nL pc L (.int y :: .int x :: st) I J := by
  obtain ⟨p, l, e, R, s, m, args, below, meth, c, cells, slots, Q, A, g⟩ := Γ
  exact fun H locs ls hP hS hl => lv_imul X.1 X.2.1 hd (k H locs ls hP hS hl)
theorem wp_iand {Γ : Ctx} {cc : ByteArray} {nL d pc : Nat} {own : String} {L : List (Nat × Value)} {st : List Value} {I : MI} {J : MJ} {x y : Int32} (X : Cx Γ cc nL own d) (hd : decode cc pc = .ok (.iand, 1)) (k : Wp Γ nL (pc + 1) L (.int (x &&& y) :: st) I J) : Wp Γ nL pc L (.int y :: .int x :: st) I J := by
  obtain ⟨p, l, e, R, s, m, args, below, meth, c, cells, slots, Q, A, g⟩ := Γ
  exact fun H locs ls hP hS hl => lv_iand X.1 X.2.1 hd (k H locs ls hP hS hl)
theorem wp_ior {Γ : Ctx} {cc : ByteArray} {nL d pc : Nat} {own : String} {L : List (Nat × Value)} {st : List Value} {I : MI} {J : MJ} {x y : Int32} (X : Cx Γ cc nL own d) (hd : decode cc pc = .ok (.ior, 1)) (k : Wp Γ nL (pc + 1) L (.int (x ||| y) :: st) I J) : Wp Γ nL pc L (.int y :: .int x :: st) I J := by
  obtain ⟨p, l, e, R, s, m, args, below, meth, c, cells, slots, Q, A, g⟩ := Γ
  exact fun H locs ls hP hS hl => lv_ior X.1 X.2.1 hd (k H locs ls hP hS hl)
theorem wp_ixor {Γ : Ctx} {cc : ByteArray} {nL d pc : Nat} {own : String} {L : List (Nat × Value)} {st : List Value} {I : MI} {J : MJ} {x y : Int32} (X : Cx Γ cc nL own d) (hd : decode cc pc = .ok (.ixor, 1)) (k : Wp Γ nL (pc + 1) L (.int (x ^^^ y) :: st) I J) : Wp Γ nL pc L (.int y :: .int x :: st) I J := by
  obtain ⟨p, l, e, R, s, m, args, below, meth, c, cells, slots, Q, A, g⟩ := Γ
  exact fun H locs ls hP hS hl => lv_ixor X.1 X.2.1 hd (k H locs ls hP hS hl)
theorem wp_ishl {Γ : Ctx} {cc : ByteArray} {nL d pc : Nat} {own : String} {L : List (Nat × Value)} {st : List Value} {I : MI} {J : MJ} {x y : Int32} (X : Cx Γ cc nL own d) (hd : decode cc pc = .ok (.ishl, 1)) (k : Wp Γ nL (pc + 1) L (.int (x <<< (y &&& 31)) :: st) I J) : Wp Γ nL pc L (.int y :: .int x :: st) I J := by
  obtain ⟨p, l, e, R, s, m, args, below, meth, c, cells, slots, Q, A, g⟩ := Γ
  exact fun H locs ls hP hS hl => lv_ishl X.1 X.2.1 hd (k H locs ls hP hS hl)
theorem wp_ishr {Γ : Ctx} {cc : ByteArray} {nL d pc : Nat} {own : String} {L : List (Nat × Value)} {st : List Value} {I : MI} {J : MJ} {x y : Int32} (X : Cx Γ cc nL own d) (hd : decode cc pc = .ok (.ishr, 1)) (k : Wp Γ nL (pc + 1) L (.int (x >>> (y &&& 31)) :: st) I J) : Wp Γ nL pc L (.int y :: .int x :: st) I J := by
  obtain ⟨p, l, e, R, s, m, args, below, meth, c, cells, slots, Q, A, g⟩ := Γ
  exact fun H locs ls hP hS hl => lv_ishr X.1 X.2.1 hd (k H locs ls hP hS hl)
theorem wp_ladd {Γ : Ctx} {cc : ByteArray} {nL d pc : Nat} {own : String} {L : List (Nat × Value)} {st : List Value} {I : MI} {J : MJ} {x y : Int64} (X : Cx Γ cc nL own d) (hd : decode cc pc = .ok (.ladd, 1)) (k : Wp Γ nL (pc + 1) L (.long (x + y) :: st) I J) : Wp Γ nL pc L (.long y :: .long x :: st) I J := by
  obtain ⟨p, l, e, R, s, m, args, below, meth, c, cells, slots, Q, A, g⟩ := Γ
  exact fun H locs ls hP hS hl => lv_ladd X.1 X.2.1 hd (k H locs ls hP hS hl)
theorem wp_lsub {Γ : Ctx} {cc : ByteArray} {nL d pc : Nat} {own : String} {L : List (Nat × Value)} {st : List Value} {I : MI} {J : MJ} {x y : Int64} (X : Cx Γ cc nL own d) (hd : decode cc pc = .ok (.lsub, 1)) (k : Wp Γ nL (pc + 1) L (.long (x - y) :: st) I J) : Wp Γ nL pc L (.long y :: .long x :: st) I J := by
  obtain ⟨p, l, e, R, s, m, args, below, meth, c, cells, slots, Q, A, g⟩ := Γ
  exact fun H locs ls hP hS hl => lv_lsub X.1 X.2.1 hd (k H locs ls hP hS hl)
theorem wp_lmul {Γ : Ctx} {cc : ByteArray} {nL d pc : Nat} {own : String} {L : List (Nat × Value)} {st : List Value} {I : MI} {J : MJ} {x y : Int64} (X : Cx Γ cc nL own d) (hd : decode cc pc = .ok (.lmul, 1)) (k : Wp Γ nL (pc + 1) L (.long (x * y) :: st) I J) : Wp Γ nL pc L (.long y :: .long x :: st) I J := by
  obtain ⟨p, l, e, R, s, m, args, below, meth, c, cells, slots, Q, A, g⟩ := Γ
  exact fun H locs ls hP hS hl => lv_lmul X.1 X.2.1 hd (k H locs ls hP hS hl)
theorem wp_land {Γ : Ctx} {cc : ByteArray} {nL d pc : Nat} {own : String} {L : List (Nat × Value)} {st : List Value} {I : MI} {J : MJ} {x y : Int64} (X : Cx Γ cc nL own d) (hd : decode cc pc = .ok (.land, 1)) (k : Wp Γ nL (pc + 1) L (.long (x &&& y) :: st) I J) : Wp Γ nL pc L (.long y :: .long x :: st) I J := by
  obtain ⟨p, l, e, R, s, m, args, below, meth, c, cells, slots, Q, A, g⟩ := Γ
  exact fun H locs ls hP hS hl => lv_land X.1 X.2.1 hd (k H locs ls hP hS hl)
theorem wp_lor {Γ : Ctx} {cc : ByteArray} {nL d pc : Nat} {own : String} {L : List (Nat × Value)} {st : List Value} {I : MI} {J : MJ} {x y : Int64} (X : Cx Γ cc nL own d) (hd : decode cc pc = .ok (.lor, 1)) (k : Wp Γ nL (pc + 1) L (.long (x ||| y) :: st) I J) : Wp Γ nL pc L (.long y :: .long x :: st) I J := by
  obtain ⟨p, l, e, R, s, m, args, below, meth, c, cells, slots, Q, A, g⟩ := Γ
  exact fun H locs ls hP hS hl => lv_lor X.1 X.2.1 hd (k H locs ls hP hS hl)
theorem wp_idiv {Γ : Ctx} {cc : ByteArray} {nL d pc : Nat} {own : String} {L : List (Nat × Value)} {st : List Value} {I : MI} {J : MJ} {x y : Int32} (X : Cx Γ cc nL own d) (hd : decode cc pc = .ok (.idiv, 1)) (hne : ¬ y = 0) (k : Wp Γ nL (pc + 1) L (.int (x / y) :: st) I J) : Wp Γ nL pc L (.int y :: .int x :: st) I J := by
  obtain ⟨p, l, e, R, s, m, args, below, meth, c, cells, slots, Q, A, g⟩ := Γ
  exact fun H locs ls hP hS hl => lv_idiv X.1 X.2.1 hd hne (k H locs ls hP hS hl)
theorem wp_irem {Γ : Ctx} {cc : ByteArray} {nL d pc : Nat} {own : String} {L : List (Nat × Value)} {st : List Value} {I : MI} {J : MJ} {x y : Int32} (X : Cx Γ cc nL own d) (hd : decode cc pc = .ok (.irem, 1)) (hne : ¬ y = 0) (k : Wp Γ nL (pc + 1) L (.int (x - x / y * y) :: st) I J) : Wp Γ nL pc L (.int y :: .int x :: st) I J := by
  obtain ⟨p, l, e, R, s, m, args, below, meth, c, cells, slots, Q, A, g⟩ := Γ
  exact fun H locs ls hP hS hl => lv_irem X.1 X.2.1 hd hne (k H locs ls hP hS hl)
theorem wp_iushr {Γ : Ctx} {cc : ByteArray} {nL d pc : Nat} {own : String} {L : List (Nat × Value)} {st : List Value} {I : MI} {J : MJ} {x y : Int32} (X : Cx Γ cc nL own d) (hd : decode cc pc = .ok (.iushr, 1)) (k : Wp Γ nL (pc + 1) L (.int ((x.toUInt32 >>> (y.toUInt32 &&& Int32.toUInt32 31)).toInt32) :: st) I J) : Wp Γ nL pc L (.int y :: .int x :: st) I J := by
  obtain ⟨p, l, e, R, s, m, args, below, meth, c, cells, slots, Q, A, g⟩ := Γ
  exact fun H locs ls hP hS hl => lv_iushr X.1 X.2.1 hd rfl (k H locs ls hP hS hl)
theorem wp_lushr {Γ : Ctx} {cc : ByteArray} {nL d pc : Nat} {own : String} {L : List (Nat × Value)} {st : List Value} {I : MI} {J : MJ} {x : Int64} {y : Int32} (X : Cx Γ cc nL own d) (hd : decode cc pc = .ok (.lushr, 1)) (k : Wp Γ nL (pc + 1) L (.long ((x.toUInt64 >>> (y.toInt64.toUInt64 &&& Int64.toUInt64 63)).toInt64) :: st) I J) : Wp Γ nL pc L (.int y :: .long x :: st) I J := by
  obtain ⟨p, l, e, R, s, m, args, below, meth, c, cells, slots, Q, A, g⟩ := Γ
  exact fun H locs ls hP hS hl => lv_lushr X.1 X.2.1 hd rfl (k H locs ls hP hS hl)
theorem wp_lshl {Γ : Ctx} {cc : ByteArray} {nL d pc : Nat} {own : String} {L : List (Nat × Value)} {st : List Value} {I : MI} {J : MJ} {x : Int64} {y : Int32} (X : Cx Γ cc nL own d) (hd : decode cc pc = .ok (.lshl, 1)) (k : Wp Γ nL (pc + 1) L (.long (x <<< (y.toInt64 &&& 63)) :: st) I J) : Wp Γ nL pc L (.int y :: .long x :: st) I J := by
  obtain ⟨p, l, e, R, s, m, args, below, meth, c, cells, slots, Q, A, g⟩ := Γ
  exact fun H locs ls hP hS hl => lv_lshl X.1 X.2.1 hd rfl (k H locs ls hP hS hl)
theorem wp_lshr {Γ : Ctx} {cc : ByteArray} {nL d pc : Nat} {own : String} {L : List (Nat × Value)} {st : List Value} {I : MI} {J : MJ} {x : Int64} {y : Int32} (X : Cx Γ cc nL own d) (hd : decode cc pc = .ok (.lshr, 1)) (k : Wp Γ nL (pc + 1) L (.long (x >>> (y.toInt64 &&& 63)) :: st) I J) : Wp Γ nL pc L (.int y :: .long x :: st) I J := by
  obtain ⟨p, l, e, R, s, m, args, below, meth, c, cells, slots, Q, A, g⟩ := Γ
  exact fun H locs ls hP hS hl => lv_lshr X.1 X.2.1 hd rfl (k H locs ls hP hS hl)
theorem wp_i2l {Γ : Ctx} {cc : ByteArray} {nL d pc : Nat} {own : String} {L : List (Nat × Value)} {st : List Value} {I : MI} {J : MJ} {x : Int32} (X : Cx Γ cc nL own d) (hd : decode cc pc = .ok (.i2l, 1)) (k : Wp Γ nL (pc + 1) L (.long x.toInt64 :: st) I J) : Wp Γ nL pc L (.int x :: st) I J := by
  obtain ⟨p, l, e, R, s, m, args, below, meth, c, cells, slots, Q, A, g⟩ := Γ
  exact fun H locs ls hP hS hl => lv_i2l X.1 X.2.1 hd rfl (k H locs ls hP hS hl)
theorem wp_l2i {Γ : Ctx} {cc : ByteArray} {nL d pc : Nat} {own : String} {L : List (Nat × Value)} {st : List Value} {I : MI} {J : MJ} {x : Int64} (X : Cx Γ cc nL own d) (hd : decode cc pc = .ok (.l2i, 1)) (k : Wp Γ nL (pc + 1) L (.int x.toInt32 :: st) I J) : Wp Γ nL pc L (.long x :: st) I J := by
  obtain ⟨p, l, e, R, s, m, args, below, meth, c, cells, slots, Q, A, g⟩ := Γ
  exact fun H locs ls hP hS hl => lv_l2i X.1 X.2.1 hd rfl (k H locs ls hP hS hl)
theorem wp_dup {Γ : Ctx} {cc : ByteArray} {nL d pc : Nat} {own : String} {L : List (Nat × Value)} {st : List Value} {I : MI} {J : MJ} {v : Value} (X : Cx Γ cc nL own d) (hd : decode cc pc = .ok (.dup, 1)) (hv : v.category = 1) (k : Wp Γ nL (pc + 1) L (v :: v :: st) I J) : Wp Γ nL pc L (v :: st) I J := by
  obtain ⟨p, l, e, R, s, m, args, below, meth, c, cells, slots, Q, A, g⟩ := Γ
  exact fun H locs ls hP hS hl => lv_dup X.1 X.2.1 hd hv (k H locs ls hP hS hl)
theorem wp_pop {Γ : Ctx} {cc : ByteArray} {nL d pc : Nat} {own : String} {L : List (Nat × Value)} {st : List Value} {I : MI} {J : MJ} {v : Value} (X : Cx Γ cc nL own d) (hd : decode cc pc = .ok (.pop, 1)) (hv : v.category = 1) (k : Wp Γ nL (pc + 1) L st I J) : Wp Γ nL pc L (v :: st) I J := by
  obtain ⟨p, l, e, R, s, m, args, below, meth, c, cells, slots, Q, A, g⟩ := Γ
  exact fun H locs ls hP hS hl => lv_pop X.1 X.2.1 hd hv (k H locs ls hP hS hl)
theorem wp_dup2_11 {Γ : Ctx} {cc : ByteArray} {nL d pc : Nat} {own : String} {L : List (Nat × Value)} {st : List Value} {I : MI} {J : MJ} {v u : Value} (X : Cx Γ cc nL own d) (hd : decode cc pc = .ok (.dup2, 1)) (hv : v.category = 1) (hu : u.category = 1) (k : Wp Γ nL (pc + 1) L (v :: u :: v :: u :: st) I J) : Wp Γ nL pc L (v :: u :: st) I J := by
  obtain ⟨p, l, e, R, s, m, args, below, meth, c, cells, slots, Q, A, g⟩ := Γ
  exact fun H locs ls hP hS hl => lv_dup2_11 X.1 X.2.1 hd hv hu (k H locs ls hP hS hl)
theorem wp_null {Γ : Ctx} {cc : ByteArray} {nL d pc : Nat} {own : String} {L : List (Nat × Value)} {st : List Value} {I : MI} {J : MJ}  (X : Cx Γ cc nL own d) (hd : decode cc pc = .ok (.aconst_null, 1)) (k : Wp Γ nL (pc + 1) L (.null :: st) I J) : Wp Γ nL pc L st I J := by
  obtain ⟨p, l, e, R, s, m, args, below, meth, c, cells, slots, Q, A, g⟩ := Γ
  exact fun H locs ls hP hS hl => lv_null X.1 X.2.1 hd (k H locs ls hP hS hl)
theorem wp_goto {Γ : Ctx} {cc : ByteArray} {nL d pc : Nat} {own : String} {L : List (Nat × Value)} {st : List Value} {I : MI} {J : MJ} {off : Int} {tgt : Nat} (X : Cx Γ cc nL own d) (hd : decode cc pc = .ok (.goto off, 3)) (ht : (pc : Int) + off = (tgt : Int)) (k : Wp Γ nL tgt L st I J) : Wp Γ nL pc L st I J := by
  obtain ⟨p, l, e, R, s, m, args, below, meth, c, cells, slots, Q, A, g⟩ := Γ
  exact fun H locs ls hP hS hl => lv_goto X.1 X.2.1 hd ht (k H locs ls hP hS hl)
theorem wp_if_eq {Γ : Ctx} {cc : ByteArray} {nL d pc : Nat} {own : String} {L : List (Nat × Value)} {st : List Value} {I : MI} {J : MJ} {x : Int32} {off : Int} {tgt : Nat} (X : Cx Γ cc nL own d) (hd : decode cc pc = .ok (.ifCond .eq off, 3)) (ht : (pc : Int) + off = (tgt : Int)) (kt : x = 0 → Wp Γ nL tgt L st I J) (kf : ¬ x = 0 → Wp Γ nL (pc + 3) L st I J) : Wp Γ nL pc L (.int x :: st) I J := by
  obtain ⟨p, l, e, R, s, m, args, below, meth, c, cells, slots, Q, A, g⟩ := Γ
  exact fun H locs ls hP hS hl => lv_if_eq X.1 X.2.1 hd ht (fun h => kt h H locs ls hP hS hl) (fun h => kf h H locs ls hP hS hl)
theorem wp_if_ne {Γ : Ctx} {cc : ByteArray} {nL d pc : Nat} {own : String} {L : List (Nat × Value)} {st : List Value} {I : MI} {J : MJ} {x : Int32} {off : Int} {tgt : Nat} (X : Cx Γ cc nL own d) (hd : decode cc pc = .ok (.ifCond .ne off, 3)) (ht : (pc : Int) + off = (tgt : Int)) (kt : ¬ x = 0 → Wp Γ nL tgt L st I J) (kf : x = 0 → Wp Γ nL (pc + 3) L st I J) : Wp Γ nL pc L (.int x :: st) I J := by
  obtain ⟨p, l, e, R, s, m, args, below, meth, c, cells, slots, Q, A, g⟩ := Γ
  exact fun H locs ls hP hS hl => lv_if_ne X.1 X.2.1 hd ht (fun h => kt h H locs ls hP hS hl) (fun h => kf h H locs ls hP hS hl)
theorem wp_if_lt {Γ : Ctx} {cc : ByteArray} {nL d pc : Nat} {own : String} {L : List (Nat × Value)} {st : List Value} {I : MI} {J : MJ} {x : Int32} {off : Int} {tgt : Nat} (X : Cx Γ cc nL own d) (hd : decode cc pc = .ok (.ifCond .lt off, 3)) (ht : (pc : Int) + off = (tgt : Int)) (kt : x < 0 → Wp Γ nL tgt L st I J) (kf : ¬ x < 0 → Wp Γ nL (pc + 3) L st I J) : Wp Γ nL pc L (.int x :: st) I J := by
  obtain ⟨p, l, e, R, s, m, args, below, meth, c, cells, slots, Q, A, g⟩ := Γ
  exact fun H locs ls hP hS hl => lv_if_lt X.1 X.2.1 hd ht (fun h => kt h H locs ls hP hS hl) (fun h => kf h H locs ls hP hS hl)
theorem wp_if_ge {Γ : Ctx} {cc : ByteArray} {nL d pc : Nat} {own : String} {L : List (Nat × Value)} {st : List Value} {I : MI} {J : MJ} {x : Int32} {off : Int} {tgt : Nat} (X : Cx Γ cc nL own d) (hd : decode cc pc = .ok (.ifCond .ge off, 3)) (ht : (pc : Int) + off = (tgt : Int)) (kt : 0 ≤ x → Wp Γ nL tgt L st I J) (kf : ¬ 0 ≤ x → Wp Γ nL (pc + 3) L st I J) : Wp Γ nL pc L (.int x :: st) I J := by
  obtain ⟨p, l, e, R, s, m, args, below, meth, c, cells, slots, Q, A, g⟩ := Γ
  exact fun H locs ls hP hS hl => lv_if_ge X.1 X.2.1 hd ht (fun h => kt h H locs ls hP hS hl) (fun h => kf h H locs ls hP hS hl)
theorem wp_if_gt {Γ : Ctx} {cc : ByteArray} {nL d pc : Nat} {own : String} {L : List (Nat × Value)} {st : List Value} {I : MI} {J : MJ} {x : Int32} {off : Int} {tgt : Nat} (X : Cx Γ cc nL own d) (hd : decode cc pc = .ok (.ifCond .gt off, 3)) (ht : (pc : Int) + off = (tgt : Int)) (kt : 0 < x → Wp Γ nL tgt L st I J) (kf : ¬ 0 < x → Wp Γ nL (pc + 3) L st I J) : Wp Γ nL pc L (.int x :: st) I J := by
  obtain ⟨p, l, e, R, s, m, args, below, meth, c, cells, slots, Q, A, g⟩ := Γ
  exact fun H locs ls hP hS hl => lv_if_gt X.1 X.2.1 hd ht (fun h => kt h H locs ls hP hS hl) (fun h => kf h H locs ls hP hS hl)
theorem wp_if_le {Γ : Ctx} {cc : ByteArray} {nL d pc : Nat} {own : String} {L : List (Nat × Value)} {st : List Value} {I : MI} {J : MJ} {x : Int32} {off : Int} {tgt : Nat} (X : Cx Γ cc nL own d) (hd : decode cc pc = .ok (.ifCond .le off, 3)) (ht : (pc : Int) + off = (tgt : Int)) (kt : x ≤ 0 → Wp Γ nL tgt L st I J) (kf : ¬ x ≤ 0 → Wp Γ nL (pc + 3) L st I J) : Wp Γ nL pc L (.int x :: st) I J := by
  obtain ⟨p, l, e, R, s, m, args, below, meth, c, cells, slots, Q, A, g⟩ := Γ
  exact fun H locs ls hP hS hl => lv_if_le X.1 X.2.1 hd ht (fun h => kt h H locs ls hP hS hl) (fun h => kf h H locs ls hP hS hl)
theorem wp_icmp_eq {Γ : Ctx} {cc : ByteArray} {nL d pc : Nat} {own : String} {L : List (Nat × Value)} {st : List Value} {I : MI} {J : MJ} {x y : Int32} {off : Int} {tgt : Nat} (X : Cx Γ cc nL own d) (hd : decode cc pc = .ok (.if_icmp .eq off, 3)) (ht : (pc : Int) + off = (tgt : Int)) (kt : x = y → Wp Γ nL tgt L st I J) (kf : ¬ x = y → Wp Γ nL (pc + 3) L st I J) : Wp Γ nL pc L (.int y :: .int x :: st) I J := by
  obtain ⟨p, l, e, R, s, m, args, below, meth, c, cells, slots, Q, A, g⟩ := Γ
  exact fun H locs ls hP hS hl => lv_icmp_eq X.1 X.2.1 hd ht (fun h => kt h H locs ls hP hS hl) (fun h => kf h H locs ls hP hS hl)
theorem wp_icmp_ne {Γ : Ctx} {cc : ByteArray} {nL d pc : Nat} {own : String} {L : List (Nat × Value)} {st : List Value} {I : MI} {J : MJ} {x y : Int32} {off : Int} {tgt : Nat} (X : Cx Γ cc nL own d) (hd : decode cc pc = .ok (.if_icmp .ne off, 3)) (ht : (pc : Int) + off = (tgt : Int)) (kt : ¬ x = y → Wp Γ nL tgt L st I J) (kf : x = y → Wp Γ nL (pc + 3) L st I J) : Wp Γ nL pc L (.int y :: .int x :: st) I J := by
  obtain ⟨p, l, e, R, s, m, args, below, meth, c, cells, slots, Q, A, g⟩ := Γ
  exact fun H locs ls hP hS hl => lv_icmp_ne X.1 X.2.1 hd ht (fun h => kt h H locs ls hP hS hl) (fun h => kf h H locs ls hP hS hl)
theorem wp_icmp_lt {Γ : Ctx} {cc : ByteArray} {nL d pc : Nat} {own : String} {L : List (Nat × Value)} {st : List Value} {I : MI} {J : MJ} {x y : Int32} {off : Int} {tgt : Nat} (X : Cx Γ cc nL own d) (hd : decode cc pc = .ok (.if_icmp .lt off, 3)) (ht : (pc : Int) + off = (tgt : Int)) (kt : x < y → Wp Γ nL tgt L st I J) (kf : ¬ x < y → Wp Γ nL (pc + 3) L st I J) : Wp Γ nL pc L (.int y :: .int x :: st) I J := by
  obtain ⟨p, l, e, R, s, m, args, below, meth, c, cells, slots, Q, A, g⟩ := Γ
  exact fun H locs ls hP hS hl => lv_icmp_lt X.1 X.2.1 hd ht (fun h => kt h H locs ls hP hS hl) (fun h => kf h H locs ls hP hS hl)
theorem wp_icmp_ge {Γ : Ctx} {cc : ByteArray} {nL d pc : Nat} {own : String} {L : List (Nat × Value)} {st : List Value} {I : MI} {J : MJ} {x y : Int32} {off : Int} {tgt : Nat} (X : Cx Γ cc nL own d) (hd : decode cc pc = .ok (.if_icmp .ge off, 3)) (ht : (pc : Int) + off = (tgt : Int)) (kt : y ≤ x → Wp Γ nL tgt L st I J) (kf : ¬ y ≤ x → Wp Γ nL (pc + 3) L st I J) : Wp Γ nL pc L (.int y :: .int x :: st) I J := by
  obtain ⟨p, l, e, R, s, m, args, below, meth, c, cells, slots, Q, A, g⟩ := Γ
  exact fun H locs ls hP hS hl => lv_icmp_ge X.1 X.2.1 hd ht (fun h => kt h H locs ls hP hS hl) (fun h => kf h H locs ls hP hS hl)
theorem wp_icmp_gt {Γ : Ctx} {cc : ByteArray} {nL d pc : Nat} {own : String} {L : List (Nat × Value)} {st : List Value} {I : MI} {J : MJ} {x y : Int32} {off : Int} {tgt : Nat} (X : Cx Γ cc nL own d) (hd : decode cc pc = .ok (.if_icmp .gt off, 3)) (ht : (pc : Int) + off = (tgt : Int)) (kt : y < x → Wp Γ nL tgt L st I J) (kf : ¬ y < x → Wp Γ nL (pc + 3) L st I J) : Wp Γ nL pc L (.int y :: .int x :: st) I J := by
  obtain ⟨p, l, e, R, s, m, args, below, meth, c, cells, slots, Q, A, g⟩ := Γ
  exact fun H locs ls hP hS hl => lv_icmp_gt X.1 X.2.1 hd ht (fun h => kt h H locs ls hP hS hl) (fun h => kf h H locs ls hP hS hl)
theorem wp_icmp_le {Γ : Ctx} {cc : ByteArray} {nL d pc : Nat} {own : String} {L : List (Nat × Value)} {st : List Value} {I : MI} {J : MJ} {x y : Int32} {off : Int} {tgt : Nat} (X : Cx Γ cc nL own d) (hd : decode cc pc = .ok (.if_icmp .le off, 3)) (ht : (pc : Int) + off = (tgt : Int)) (kt : x ≤ y → Wp Γ nL tgt L st I J) (kf : ¬ x ≤ y → Wp Γ nL (pc + 3) L st I J) : Wp Γ nL pc L (.int y :: .int x :: st) I J := by
  obtain ⟨p, l, e, R, s, m, args, below, meth, c, cells, slots, Q, A, g⟩ := Γ
  exact fun H locs ls hP hS hl => lv_icmp_le X.1 X.2.1 hd ht (fun h => kt h H locs ls hP hS hl) (fun h => kf h H locs ls hP hS hl)
theorem lg_cmp_eq0 (x y : Int64) : (lg_cmp x y = 0) ↔ x = y := by
  unfold lg_cmp
  split
  · rename_i h
    constructor
    · intro q; exact absurd q (by decide)
    · intro q; subst q; exact absurd h (by simp [Int64.lt_iff_toInt_lt])
  · split
    · simp_all
    · simp_all
theorem wp_lcmp_eq {Γ : Ctx} {cc : ByteArray} {nL d pc : Nat} {own : String} {L : List (Nat × Value)} {st : List Value} {I : MI} {J : MJ} {x y : Int64} {off : Int} {tgt : Nat} (X : Cx Γ cc nL own d) (hd0 : decode cc pc = .ok (.lcmp, 1)) (hd : decode cc (pc + 1) = .ok (.ifCond .eq off, 3)) (ht : ((pc + 1 : Nat) : Int) + off = (tgt : Int)) (kt : x = y → Wp Γ nL tgt L st I J) (kf : ¬ x = y → Wp Γ nL (pc + 1 + 3) L st I J) : Wp Γ nL pc L (.long y :: .long x :: st) I J := by
  obtain ⟨p, l, e, R, s, m, args, below, meth, c, cells, slots, Q, A, g⟩ := Γ
  exact fun H locs ls hP hS hl => W.lcmp X.1 X.2.1 hd0 (lv_if_eq X.1 X.2.1 hd ht (fun h => (kt ((lg_cmp_eq0 x y).mp h)) H locs ls hP hS hl) (fun h => (kf (fun z => h ((lg_cmp_eq0 x y).mpr z))) H locs ls hP hS hl))
theorem wp_lcmp_ne {Γ : Ctx} {cc : ByteArray} {nL d pc : Nat} {own : String} {L : List (Nat × Value)} {st : List Value} {I : MI} {J : MJ} {x y : Int64} {off : Int} {tgt : Nat} (X : Cx Γ cc nL own d) (hd0 : decode cc pc = .ok (.lcmp, 1)) (hd : decode cc (pc + 1) = .ok (.ifCond .ne off, 3)) (ht : ((pc + 1 : Nat) : Int) + off = (tgt : Int)) (kt : ¬ x = y → Wp Γ nL tgt L st I J) (kf : x = y → Wp Γ nL (pc + 1 + 3) L st I J) : Wp Γ nL pc L (.long y :: .long x :: st) I J := by
  obtain ⟨p, l, e, R, s, m, args, below, meth, c, cells, slots, Q, A, g⟩ := Γ
  exact fun H locs ls hP hS hl => W.lcmp X.1 X.2.1 hd0 (lv_if_ne X.1 X.2.1 hd ht (fun h => (kt (fun z => h ((lg_cmp_eq0 x y).mpr z))) H locs ls hP hS hl) (fun h => (kf ((lg_cmp_eq0 x y).mp h)) H locs ls hP hS hl))
theorem wp_lcmp_lt {Γ : Ctx} {cc : ByteArray} {nL d pc : Nat} {own : String} {L : List (Nat × Value)} {st : List Value} {I : MI} {J : MJ} {x y : Int64} {off : Int} {tgt : Nat} (X : Cx Γ cc nL own d) (hd0 : decode cc pc = .ok (.lcmp, 1)) (hd : decode cc (pc + 1) = .ok (.ifCond .lt off, 3)) (ht : ((pc + 1 : Nat) : Int) + off = (tgt : Int)) (kt : x < y → Wp Γ nL tgt L st I J) (kf : ¬ x < y → Wp Γ nL (pc + 1 + 3) L st I J) : Wp Γ nL pc L (.long y :: .long x :: st) I J := by
  obtain ⟨p, l, e, R, s, m, args, below, meth, c, cells, slots, Q, A, g⟩ := Γ
  exact fun H locs ls hP hS hl => W.lcmp X.1 X.2.1 hd0 (lv_if_lt X.1 X.2.1 hd ht (fun h => (kt ((lg_cmp_lt x y).mp h)) H locs ls hP hS hl) (fun h => (kf (fun z => h ((lg_cmp_lt x y).mpr z))) H locs ls hP hS hl))
theorem wp_lcmp_ge {Γ : Ctx} {cc : ByteArray} {nL d pc : Nat} {own : String} {L : List (Nat × Value)} {st : List Value} {I : MI} {J : MJ} {x y : Int64} {off : Int} {tgt : Nat} (X : Cx Γ cc nL own d) (hd0 : decode cc pc = .ok (.lcmp, 1)) (hd : decode cc (pc + 1) = .ok (.ifCond .ge off, 3)) (ht : ((pc + 1 : Nat) : Int) + off = (tgt : Int)) (kt : y ≤ x → Wp Γ nL tgt L st I J) (kf : ¬ y ≤ x → Wp Γ nL (pc + 1 + 3) L st I J) : Wp Γ nL pc L (.long y :: .long x :: st) I J := by
  obtain ⟨p, l, e, R, s, m, args, below, meth, c, cells, slots, Q, A, g⟩ := Γ
  exact fun H locs ls hP hS hl => W.lcmp X.1 X.2.1 hd0 (lv_if_ge X.1 X.2.1 hd ht (fun h => (kt ((lg_cmp_ge x y).mp h)) H locs ls hP hS hl) (fun h => (kf (fun z => h ((lg_cmp_ge x y).mpr z))) H locs ls hP hS hl))
theorem wp_lcmp_gt {Γ : Ctx} {cc : ByteArray} {nL d pc : Nat} {own : String} {L : List (Nat × Value)} {st : List Value} {I : MI} {J : MJ} {x y : Int64} {off : Int} {tgt : Nat} (X : Cx Γ cc nL own d) (hd0 : decode cc pc = .ok (.lcmp, 1)) (hd : decode cc (pc + 1) = .ok (.ifCond .gt off, 3)) (ht : ((pc + 1 : Nat) : Int) + off = (tgt : Int)) (kt : y < x → Wp Γ nL tgt L st I J) (kf : ¬ y < x → Wp Γ nL (pc + 1 + 3) L st I J) : Wp Γ nL pc L (.long y :: .long x :: st) I J := by
  obtain ⟨p, l, e, R, s, m, args, below, meth, c, cells, slots, Q, A, g⟩ := Γ
  exact fun H locs ls hP hS hl => W.lcmp X.1 X.2.1 hd0 (lv_if_gt X.1 X.2.1 hd ht (fun h => (kt ((lg_cmp_gt x y).mp h)) H locs ls hP hS hl) (fun h => (kf (fun z => h ((lg_cmp_gt x y).mpr z))) H locs ls hP hS hl))
theorem wp_lcmp_le {Γ : Ctx} {cc : ByteArray} {nL d pc : Nat} {own : String} {L : List (Nat × Value)} {st : List Value} {I : MI} {J : MJ} {x y : Int64} {off : Int} {tgt : Nat} (X : Cx Γ cc nL own d) (hd0 : decode cc pc = .ok (.lcmp, 1)) (hd : decode cc (pc + 1) = .ok (.ifCond .le off, 3)) (ht : ((pc + 1 : Nat) : Int) + off = (tgt : Int)) (kt : x ≤ y → Wp Γ nL tgt L st I J) (kf : ¬ x ≤ y → Wp Γ nL (pc + 1 + 3) L st I J) : Wp Γ nL pc L (.long y :: .long x :: st) I J := by
  obtain ⟨p, l, e, R, s, m, args, below, meth, c, cells, slots, Q, A, g⟩ := Γ
  exact fun H locs ls hP hS hl => W.lcmp X.1 X.2.1 hd0 (lv_if_le X.1 X.2.1 hd ht (fun h => (kt ((lg_cmp_le x y).mp h)) H locs ls hP hS hl) (fun h => (kf (fun z => h ((lg_cmp_le x y).mpr z))) H locs ls hP hS hl))
theorem wp_sub {Γ : Ctx} {cc : ByteArray} {nL d pc : Nat} {own : String} {L : List (Nat × Value)} {st : List Value} {I : MI} {J : MJ} {L' : List (Nat × Value)} (X : Cx Γ cc nL own d) (ks : List Nat) (h : lv_pick L ks = L') (k : Wp Γ nL pc L' st I J) : Wp Γ nL pc L st I J := by
  obtain ⟨p, l, e, R, s, m, args, below, meth, c, cells, slots, Q, A, g⟩ := Γ
  exact fun H locs ls hP hS hl => k H locs ls hP hS (lv_sub hl ks h)
theorem wp_ldc {Γ : Ctx} {cc : ByteArray} {nL d pc : Nat} {own : String} {L : List (Nat × Value)} {st : List Value} {I : MI} {J : MJ} {index : Nat} {v : Int32} (X : Cx Γ cc nL own d) (hc : Cond.constant own index v ∈ TT) (hd : decode cc pc = .ok (.ldc index, 2)) (k : Wp Γ nL (pc + 2) L (.int v :: st) I J) : Wp Γ nL pc L st I J := by
  obtain ⟨p, l, e, R, s, m, args, below, meth, c, cells, slots, Q, A, g⟩ := Γ
  exact fun H locs ls hP hS hl => lv_ldc X.1 X.2.1 X.2.2.2.1 (X.2.2.2.2.1 _ hc) hd (k H locs ls hP hS hl)
theorem wp_ldcw {Γ : Ctx} {cc : ByteArray} {nL d pc : Nat} {own : String} {L : List (Nat × Value)} {st : List Value} {I : MI} {J : MJ} {index : Nat} {v : Int32} (X : Cx Γ cc nL own d) (hc : Cond.constant own index v ∈ TT) (hd : decode cc pc = .ok (.ldc_w index, 3)) (k : Wp Γ nL (pc + 3) L (.int v :: st) I J) : Wp Γ nL pc L st I J := by
  obtain ⟨p, l, e, R, s, m, args, below, meth, c, cells, slots, Q, A, g⟩ := Γ
  exact fun H locs ls hP hS hl => lv_ldcw X.1 X.2.1 X.2.2.2.1 (X.2.2.2.2.1 _ hc) hd (k H locs ls hP hS hl)
theorem wp_ldc2 {Γ : Ctx} {cc : ByteArray} {nL d pc : Nat} {own : String} {L : List (Nat × Value)} {st : List Value} {I : MI} {J : MJ} {index : Nat} {v : Int64} (X : Cx Γ cc nL own d) (hc : Cond.constantLong own index v ∈ TT) (hd : decode cc pc = .ok (.ldc2_w index, 3)) (k : Wp Γ nL (pc + 3) L (.long v :: st) I J) : Wp Γ nL pc L st I J := by
  obtain ⟨p, l, e, R, s, m, args, below, meth, c, cells, slots, Q, A, g⟩ := Γ
  exact fun H locs ls hP hS hl => lv_ldc2 X.1 X.2.1 X.2.2.2.1 (X.2.2.2.2.1 _ hc) hd (k H locs ls hP hS hl)
theorem wp_tableIn {Γ : Ctx} {cc : ByteArray} {nL d pc : Nat} {own : String} {L : List (Nat × Value)} {st : List Value} {I : MI} {J : MJ} {dflt lo hi : Int} {offs : Array Int} {len : Nat} {x : Int32} {off : Int} {tgt : Nat} (X : Cx Γ cc nL own d) (hd : decode cc pc = .ok (.tableswitch dflt lo hi offs, len)) (h1 : ¬ x.toInt < lo) (h2 : ¬ hi < x.toInt) (ho : offs[(x.toInt - lo).toNat]? = some off) (ht : (pc : Int) + off = (tgt : Int)) (k : Wp Γ nL tgt L st I J) : Wp Γ nL pc L (.int x :: st) I J := by
  obtain ⟨p, l, e, R, s, m, args, below, meth, c, cells, slots, Q, A, g⟩ := Γ
  exact fun H locs ls hP hS hl => lv_tableIn X.1 X.2.1 hd h1 h2 ho ht (k H locs ls hP hS hl)
theorem wp_tableOut {Γ : Ctx} {cc : ByteArray} {nL d pc : Nat} {own : String} {L : List (Nat × Value)} {st : List Value} {I : MI} {J : MJ} {dflt lo hi : Int} {offs : Array Int} {len : Nat} {x : Int32} {tgt : Nat} (X : Cx Γ cc nL own d) (hd : decode cc pc = .ok (.tableswitch dflt lo hi offs, len)) (h1 : x.toInt < lo ∨ hi < x.toInt) (ht : (pc : Int) + dflt = (tgt : Int)) (k : Wp Γ nL tgt L st I J) : Wp Γ nL pc L (.int x :: st) I J := by
  obtain ⟨p, l, e, R, s, m, args, below, meth, c, cells, slots, Q, A, g⟩ := Γ
  exact fun H locs ls hP hS hl => lv_tableOut X.1 X.2.1 hd h1 ht (k H locs ls hP hS hl)
def rfN (ad : Nat → Nat) (q : Option Nat) : Value := match q with
  | none => .null
  | some a => .ref (ad a)
theorem wp_ifnull {Γ : Ctx} {cc : ByteArray} {nL d pc : Nat} {own : String} {L : List (Nat × Value)} {st : List Value} {I : MI} {J : MJ} {q : Option Nat} {off : Int} {tgt : Nat} (X : Cx Γ cc nL own d) (hd : decode cc pc = .ok (.ifnull off, 3)) (ht : (pc : Int) + off = (tgt : Int)) (kt : q = none → Wp Γ nL tgt L st I J) (kf : ∀ a, q = some a → Wp Γ nL (pc + 3) L st I J) : Wp Γ nL pc L (rfN (ad Γ) q :: st) I J := by
  obtain ⟨p, l, e, R, s, m, args, below, meth, c, cells, slots, Q, A, g⟩ := Γ
  cases q with
  | none => exact fun H locs ls hP hS hl => lv_ifnullN X.1 X.2.1 hd ht (kt rfl H locs ls hP hS hl)
  | some a => exact fun H locs ls hP hS hl => lv_ifnull X.1 X.2.1 hd (kf a rfl H locs ls hP hS hl)
theorem wp_ifnonnull {Γ : Ctx} {cc : ByteArray} {nL d pc : Nat} {own : String} {L : List (Nat × Value)} {st : List Value} {I : MI} {J : MJ} {q : Option Nat} {off : Int} {tgt : Nat} (X : Cx Γ cc nL own d) (hd : decode cc pc = .ok (.ifnonnull off, 3)) (ht : (pc : Int) + off = (tgt : Int)) (kt : ∀ a, q = some a → Wp Γ nL tgt L st I J) (kf : q = none → Wp Γ nL (pc + 3) L st I J) : Wp Γ nL pc L (rfN (ad Γ) q :: st) I J := by
  obtain ⟨p, l, e, R, s, m, args, below, meth, c, cells, slots, Q, A, g⟩ := Γ
  cases q with
  | none => exact fun H locs ls hP hS hl => lv_ifnonnullN X.1 X.2.1 hd (kf rfl H locs ls hP hS hl)
  | some a => exact fun H locs ls hP hS hl => lv_ifnonnull X.1 X.2.1 hd ht (kt a rfl H locs ls hP hS hl)
theorem wp_aload_nQ {Γ : Ctx} {cc : ByteArray} {nL d pc : Nat} {own : String} {L : List (Nat × Value)} {st : List Value} {I : MI} {J : MJ} {k0 : Fin 4} {q : Option Nat} (X : Cx Γ cc nL own d) (hd : decode cc pc = .ok (.aload_n k0, 1)) (j : Nat) (hj : L[j]? = some ((k0 : Nat), rfN (ad Γ) q)) (k : Wp Γ nL (pc + 1) L (rfN (ad Γ) q :: st) I J) : Wp Γ nL pc L st I J := by
  obtain ⟨p, l, e, R, s, m, args, below, meth, c, cells, slots, Q, A, g⟩ := Γ
  cases q with
  | none => exact fun H locs ls hP hS hl => lv_aload_nN X.1 X.2.1 hd rfl (lv_at hl j hj) (k H locs ls hP hS hl)
  | some a => exact fun H locs ls hP hS hl => lv_aload_n X.1 X.2.1 hd rfl (lv_at hl j hj) (k H locs ls hP hS hl)
theorem wp_aloadQ {Γ : Ctx} {cc : ByteArray} {nL d pc : Nat} {own : String} {L : List (Nat × Value)} {st : List Value} {I : MI} {J : MJ} {i : Nat} {q : Option Nat} (X : Cx Γ cc nL own d) (hd : decode cc pc = .ok (.aload i, 2)) (j : Nat) (hj : L[j]? = some (i, rfN (ad Γ) q)) (k : Wp Γ nL (pc + 2) L (rfN (ad Γ) q :: st) I J) : Wp Γ nL pc L st I J := by
  obtain ⟨p, l, e, R, s, m, args, below, meth, c, cells, slots, Q, A, g⟩ := Γ
  cases q with
  | none => exact fun H locs ls hP hS hl => lv_aloadN X.1 X.2.1 hd (lv_at hl j hj) (k H locs ls hP hS hl)
  | some a => exact fun H locs ls hP hS hl => lv_aload X.1 X.2.1 hd (lv_at hl j hj) (k H locs ls hP hS hl)
theorem wp_astore_nQ {Γ : Ctx} {cc : ByteArray} {nL d pc : Nat} {own : String} {L : List (Nat × Value)} {st : List Value} {I : MI} {J : MJ} {k0 : Fin 4} {i : Nat} {q : Option Nat} {L' : List (Nat × Value)} (X : Cx Γ cc nL own d) (hd : decode cc pc = .ok (.astore_n k0, 1)) (hi : (k0 : Nat) = i) (hn : i < nL) (hl : (i, rfN (ad Γ) q) :: L.filter (fun q => !(q.1 == i) && !(q.1 + 1 == i && q.2.category == 2)) = L') (k : Wp Γ nL (pc + 1) L' st I J) : Wp Γ nL pc L (rfN (ad Γ) q :: st) I J := by
  obtain ⟨p, l, e, R, s, m, args, below, meth, c, cells, slots, Q, A, g⟩ := Γ
  cases q with
  | none => exact fun H locs ls hP hS hl0 => lv_astore_nN X.1 X.2.1 hd hi hl0 hn hl (fun ls' hl' => k H locs ls' hP hS hl')
  | some a => exact fun H locs ls hP hS hl0 => lv_astore_n X.1 X.2.1 hd hi hl0 hn hl (fun ls' hl' => k H locs ls' hP hS hl')
theorem wp_astoreQ {Γ : Ctx} {cc : ByteArray} {nL d pc : Nat} {own : String} {L : List (Nat × Value)} {st : List Value} {I : MI} {J : MJ} {i : Nat} {q : Option Nat} {L' : List (Nat × Value)} (X : Cx Γ cc nL own d) (hd : decode cc pc = .ok (.astore i, 2)) (hn : i < nL) (hl : (i, rfN (ad Γ) q) :: L.filter (fun q => !(q.1 == i) && !(q.1 + 1 == i && q.2.category == 2)) = L') (k : Wp Γ nL (pc + 2) L' st I J) : Wp Γ nL pc L (rfN (ad Γ) q :: st) I J := by
  obtain ⟨p, l, e, R, s, m, args, below, meth, c, cells, slots, Q, A, g⟩ := Γ
  cases q with
  | none => exact fun H locs ls hP hS hl0 => lv_astoreN X.1 X.2.1 hd hl0 hn hl (fun ls' hl' => k H locs ls' hP hS hl')
  | some a => exact fun H locs ls hP hS hl0 => lv_astore X.1 X.2.1 hd hl0 hn hl (fun ls' hl' => k H locs ls' hP hS hl')
theorem wp_get {Γ : Ctx} {cc : ByteArray} {nL d pc : Nat} {own : String} {L : List (Nat × Value)} {st : List Value} {I : MI} {J : MJ} {C : String} {T : u_T} {N ci n o index : Nat} {v : Value} (X : Cx Γ cc nL own d) (hs : shp[o]? = some (ci, n)) (hc : ci < 20) (hcl : vwCl[ci]? = some (C, T, N)) (hin : ∀ w ∈ u_ws C T N, w ∈ TT) (k0 : Nat) (hk : k0 < N) (hT : (T k0).1 = C) (hlink : Cond.fieldLink own index C (T k0).2.1 (T k0).2.2.1 ∈ TT) (hv : (flds (ad Γ) ci (I o) (J o) o)[k0]? = some v) (hd : decode cc pc = .ok (.getfield index, 3)) (k : Wp Γ nL (pc + 3) L (v :: st) I J) : Wp Γ nL pc L (.ref (ad Γ o) :: st) I J := by
  obtain ⟨p, l, e, R, s, m, args, below, meth, c, cells, slots, Q, A, g⟩ := Γ
  obtain ⟨hx, hb, hml, hown, hts, hK, hi, hA, hfr, hlo, hce, hsl⟩ := X
  exact fun H locs ls hP hS hl => va_get hx hb hts hin hown hK.1 hP o (fs := flds g.1 ci (I o) (J o) o) (by rw [wd_at g _ _ (shp_lt hs), cel_o hs hc]) hcl k0 hk (hts _ hlink) (fun x h => by rw [hT] at h; exact h) hv hd (k H locs ls hP hS hl)
theorem wp_put {Γ : Ctx} {cc : ByteArray} {nL d pc : Nat} {own : String} {L : List (Nat × Value)} {st : List Value} {I : MI} {J : MJ} {C : String} {T : u_T} {N ci n o index : Nat} {v : Value} {I' : MI} {J' : MJ} (X : Cx Γ cc nL own d) (hs : shp[o]? = some (ci, n)) (hc : ci < 20) (hcl : vwCl[ci]? = some (C, T, N)) (hin : ∀ w ∈ u_ws C T N, w ∈ TT) (ty0 : Nat → FieldType) (hty : ∀ k, k < N → parseFieldDescriptor (T k).2.2.1 = some (ty0 k)) (hnm : ∀ a, a < N → ∀ b, b < N → a ≠ b → (T a).2.1 ≠ (T b).2.1) (k0 : Nat) (hk : k0 < N) (hT : (T k0).1 = C) (hlink : Cond.fieldLink own index C (T k0).2.1 (T k0).2.2.1 ∈ TT) (hfin : (T k0).2.2.2 = false) (hn : narrow (ty0 k0) v = v) (hfit : fits (ty0 k0) v = true) (hlen : k0 < (flds (ad Γ) ci (I o) (J o) o).length) (hset : (wd (cxG Γ) I J).set o (ad Γ o, .inr (ci, (flds (ad Γ) ci (I o) (J o) o).set k0 v)) = wd (cxG Γ) I' J') (hd : decode cc pc = .ok (.putfield index, 3)) (k : Wp Γ nL (pc + 3) L st I' J') : Wp Γ nL pc L (v :: .ref (ad Γ o) :: st) I J := by
  obtain ⟨p, l, e, R, s, m, args, below, meth, c, cells, slots, Q, A, g⟩ := Γ
  obtain ⟨hx, hb, hml, hown, hts, hK, hi, hA, hfr, hlo, hce, hsl⟩ := X
  refine fun H locs ls hP hS hl => va_put hx hb hts hin ty0 hty hnm hown hK.1 hP (wd_D hi hA) hS o (fs := flds g.1 ci (I o) (J o) o) (by rw [wd_at g _ _ (shp_lt hs), cel_o hs hc]) hcl k0 hk (hts _ hlink) (fun x h => by rw [hT] at h; exact h) hfin (hty k0 hk) hn hfit hlen hd (fun H1 locs1 hP1 _ hS1 => ?_)
  rw [hset] at hP1
  exact k H1 locs1 ls hP1 hS1 hl
theorem wp_iald {Γ : Ctx} {cc : ByteArray} {nL d pc : Nat} {own : String} {L : List (Nat × Value)} {st : List Value} {I : MI} {J : MJ} {n o : Nat} {i : Int32} (X : Cx Γ cc nL own d) (hs : shp[o]? = some (20, n)) (hin : vp_in i n) (hd : decode cc pc = .ok (.iaload, 1)) (k : Wp Γ nL (pc + 1) L (.int (I o i.toNatClampNeg) :: st) I J) : Wp Γ nL pc L (.int i :: .ref (ad Γ o) :: st) I J := by
  obtain ⟨p, l, e, R, s, m, args, below, meth, c, cells, slots, Q, A, g⟩ := Γ
  obtain ⟨hx, hb, hml, hown, hts, hK, hi, hA, hfr, hlo, hce, hsl⟩ := X
  exact fun H locs ls hP hS hl => va_iald hx hb hK.1 hP o 0 (by rw [wd_at g _ _ (shp_lt hs), cel_i hs]) rfl hin hd (k H locs ls hP hS hl)
theorem wp_zald {Γ : Ctx} {cc : ByteArray} {nL d pc : Nat} {own : String} {L : List (Nat × Value)} {st : List Value} {I : MI} {J : MJ} {n o : Nat} {i : Int32} (X : Cx Γ cc nL own d) (hs : shp[o]? = some (21, n)) (hin : vp_in i n) (hd : decode cc pc = .ok (.baload, 1)) (k : Wp Γ nL (pc + 1) L (.int (I o i.toNatClampNeg) :: st) I J) : Wp Γ nL pc L (.int i :: .ref (ad Γ o) :: st) I J := by
  obtain ⟨p, l, e, R, s, m, args, below, meth, c, cells, slots, Q, A, g⟩ := Γ
  obtain ⟨hx, hb, hml, hown, hts, hK, hi, hA, hfr, hlo, hce, hsl⟩ := X
  exact fun H locs ls hP hS hl => va_zald hx hb hK.1 hP o 2 (by rw [wd_at g _ _ (shp_lt hs), cel_z hs]) rfl hin hd (k H locs ls hP hS hl)
theorem wp_lald {Γ : Ctx} {cc : ByteArray} {nL d pc : Nat} {own : String} {L : List (Nat × Value)} {st : List Value} {I : MI} {J : MJ} {n o : Nat} {i : Int32} (X : Cx Γ cc nL own d) (hs : shp[o]? = some (22, n)) (hin : vp_in i n) (hd : decode cc pc = .ok (.laload, 1)) (k : Wp Γ nL (pc + 1) L (.long (J o i.toNatClampNeg) :: st) I J) : Wp Γ nL pc L (.int i :: .ref (ad Γ o) :: st) I J := by
  obtain ⟨p, l, e, R, s, m, args, below, meth, c, cells, slots, Q, A, g⟩ := Γ
  obtain ⟨hx, hb, hml, hown, hts, hK, hi, hA, hfr, hlo, hce, hsl⟩ := X
  exact fun H locs ls hP hS hl => va_lald hx hb hK.1 hP o 1 (by rw [wd_at g _ _ (shp_lt hs), cel_j hs]) rfl hin hd (k H locs ls hP hS hl)
theorem wp_aald {Γ : Ctx} {cc : ByteArray} {nL d pc : Nat} {own : String} {L : List (Nat × Value)} {st : List Value} {I : MI} {J : MJ} {n o : Nat} {i : Int32} (X : Cx Γ cc nL own d) (hs : shp[o]? = some (23, n)) (hin : vp_in i n) (hd : decode cc pc = .ok (.aaload, 1)) (k : Wp Γ nL (pc + 1) L (.ref (ad Γ (o + 64 + 7 * i.toNatClampNeg)) :: st) I J) : Wp Γ nL pc L (.int i :: .ref (ad Γ o) :: st) I J := by
  obtain ⟨p, l, e, R, s, m, args, below, meth, c, cells, slots, Q, A, g⟩ := Γ
  obtain ⟨hx, hb, hml, hown, hts, hK, hi, hA, hfr, hlo, hce, hsl⟩ := X
  exact fun H locs ls hP hS hl => va_aldq (f := fun k => some (g.1 (o + 64 + 7 * k))) hx hb hK.1 hP o 3 (by rw [wd_at g _ _ (shp_lt hs), cel_p hs]) rfl hin hd (k H locs ls hP hS hl)
theorem wp_iast {Γ : Ctx} {cc : ByteArray} {nL d pc : Nat} {own : String} {L : List (Nat × Value)} {st : List Value} {I : MI} {J : MJ} {n o : Nat} {i : Int32} {x : Int32} (X : Cx Γ cc nL own d) (hs : shp[o]? = some (20, n)) (hin : vp_in i n) (hd : decode cc pc = .ok (.iastore, 1)) (k : Wp Γ nL (pc + 1) L st (sI I o (upd (I o) i.toNatClampNeg x)) J) : Wp Γ nL pc L (.int x :: .int i :: .ref (ad Γ o) :: st) I J := by
  obtain ⟨p, l, e, R, s, m, args, below, meth, c, cells, slots, Q, A, g⟩ := Γ
  obtain ⟨hx, hb, hml, hown, hts, hK, hi, hA, hfr, hlo, hce, hsl⟩ := X
  refine fun H locs ls hP hS hl => va_iast hx hb hK.1 hP (wd_D hi hA) hS o 0 (by rw [wd_at g _ _ (shp_lt hs), cel_i hs]) rfl hin hd (fun H1 locs1 hP1 _ hS1 => ?_)
  rw [← cel_i (f := upd (I o) i.toNatClampNeg x) (h := J o) hs, wd_setI] at hP1
  exact k H1 locs1 ls hP1 hS1 hl
theorem wp_zast {Γ : Ctx} {cc : ByteArray} {nL d pc : Nat} {own : String} {L : List (Nat × Value)} {st : List Value} {I : MI} {J : MJ} {n o : Nat} {i : Int32} {x : Int32} (X : Cx Γ cc nL own d) (hs : shp[o]? = some (21, n)) (hin : vp_in i n) (hd : decode cc pc = .ok (.bastore, 1)) (k : Wp Γ nL (pc + 1) L st (sI I o (upd (I o) i.toNatClampNeg (vp_nar .boolean x))) J) : Wp Γ nL pc L (.int x :: .int i :: .ref (ad Γ o) :: st) I J := by
  obtain ⟨p, l, e, R, s, m, args, below, meth, c, cells, slots, Q, A, g⟩ := Γ
  obtain ⟨hx, hb, hml, hown, hts, hK, hi, hA, hfr, hlo, hce, hsl⟩ := X
  refine fun H locs ls hP hS hl => va_zast hx hb hK.1 hP (wd_D hi hA) hS o 2 (by rw [wd_at g _ _ (shp_lt hs), cel_z hs]) rfl hin hd (fun H1 locs1 hP1 _ hS1 => ?_)
  rw [← cel_z (f := upd (I o) i.toNatClampNeg (vp_nar .boolean x)) (h := J o) hs, wd_setI] at hP1
  exact k H1 locs1 ls hP1 hS1 hl
theorem wp_last {Γ : Ctx} {cc : ByteArray} {nL d pc : Nat} {own : String} {L : List (Nat × Value)} {st : List Value} {I : MI} {J : MJ} {n o : Nat} {i : Int32} {x : Int64} (X : Cx Γ cc nL own d) (hs : shp[o]? = some (22, n)) (hin : vp_in i n) (hd : decode cc pc = .ok (.lastore, 1)) (k : Wp Γ nL (pc + 1) L st I (sJ J o (vp_updL (J o) i.toNatClampNeg x))) : Wp Γ nL pc L (.long x :: .int i :: .ref (ad Γ o) :: st) I J := by
  obtain ⟨p, l, e, R, s, m, args, below, meth, c, cells, slots, Q, A, g⟩ := Γ
  obtain ⟨hx, hb, hml, hown, hts, hK, hi, hA, hfr, hlo, hce, hsl⟩ := X
  refine fun H locs ls hP hS hl => va_last hx hb hK.1 hP (wd_D hi hA) hS o 1 (by rw [wd_at g _ _ (shp_lt hs), cel_j hs]) rfl hin hd (fun H1 locs1 hP1 _ hS1 => ?_)
  rw [← cel_j (f := I o) (h := vp_updL (J o) i.toNatClampNeg x) hs, wd_setJ] at hP1
  exact k H1 locs1 ls hP1 hS1 hl
theorem wp_alen {Γ : Ctx} {cc : ByteArray} {nL d pc : Nat} {own : String} {L : List (Nat × Value)} {st : List Value} {I : MI} {J : MJ} {n o : Nat} (X : Cx Γ cc nL own d) (hs : shp[o]? = some (20, n)) (hd : decode cc pc = .ok (.arraylength, 1)) (k : Wp Γ nL (pc + 1) L (.int (Int32.ofNat n) :: st) I J) : Wp Γ nL pc L (.ref (ad Γ o) :: st) I J := by
  obtain ⟨p, l, e, R, s, m, args, below, meth, c, cells, slots, Q, A, g⟩ := Γ
  obtain ⟨hx, hb, hml, hown, hts, hK, hi, hA, hfr, hlo, hce, hsl⟩ := X
  exact fun H locs ls hP hS hl => va_alen hx hb hK.1 hP o 0 (by rw [wd_at g _ _ (shp_lt hs), cel_i hs]) rfl rfl hd (k H locs ls hP hS hl)
