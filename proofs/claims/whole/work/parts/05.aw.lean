/-! ===== the machine under the abstract heap: AW, and a row for each instruction ===== -/
/-- the words of the tables that hold in every callee too -/
def tb : List Cond := lw_tbl.filter goodWord
theorem tb_good : ∀ w ∈ tb, (w.onTables && w.keeps) = true ∨ ∃ ty, w = .arrayClass ty := fun w h => good_of_word (List.mem_filter.mp h).2
theorem tb_of {w : Cond} (i : Nat) (h : tables_1[i]? = some w) (hg : goodWord w = true) : w ∈ tb := List.mem_filter.mpr ⟨List.mem_append_right _ (List.mem_of_getElem? h), hg⟩
theorem tb_sel {w : Cond} (i : Nat) (h : (k2_sels lw_privs)[i]? = some w) (hg : goodWord w = true) : w ∈ tb := List.mem_filter.mpr ⟨List.mem_append_left _ (List.mem_of_getElem? h), hg⟩
def tysOf (cy : Nat → ClassId) : List (ClassId × FieldType) := [(cy 0, .int), (cy 1, .byte), (cy 2, .boolean), (cy 3, .long), (cy 4, .object RX1), (cy 5, .object RX2), (cy 6, .object RX3)]
def ce (cy : Nat → ClassId) (c : Cel) : va_E := match c with
  | .inl (k, a) => .inl (cy k, a)
  | .inr o => .inr o
/-- the run's constants: the classes' numbers and slots; the array classes; where the String constants and their bytes lie; from where on the run's own cells lie; the script: its address, its length, what it holds -/
abbrev Gx : Type := va_G × (Nat → ClassId) × (Nat → Nat) × (Nat → Nat) × Nat × Nat × Nat × (Nat → Int32)
abbrev gD (g : Gx) : va_G := g.1
abbrev gY (g : Gx) : Nat → ClassId := g.2.1
abbrev gB (g : Gx) : Nat := g.2.2.2.2.1
abbrev gS (g : Gx) : Nat := g.2.2.2.2.2.1
abbrev gL (g : Gx) : Nat := g.2.2.2.2.2.2.1
abbrev gX (g : Gx) : Nat → Int32 := g.2.2.2.2.2.2.2
def gA (g : Gx) : Nat → Prop := fun q => gB g ≤ q
/-- what is known of the tables at a method's entry -/
def nstW : List (String × Nat × MethodName) := [(RX1, 29, yX3_init), (RX2, 21, yX3_init), (RX7, 40, yX0_init), (RX0, 11, yX3_init), (RX7, 47, yX6_init), (RX6, 13, yX3_init), (RX7, 54, yX5_init), (RX7, 61, yX4_init), (RX4, 116, yX7_within)]
def Kn (g : Gx) (U : State) : Prop := va_K (gD g) vwCl (tysOf (gY g)) U ∧ va_AO RX1 U ∧ va_AO RX2 U ∧ va_AO RX3 U ∧ (∀ q ∈ nstW, va_Nw (.methodLinkNest q.1 q.2.1 q.2.2 "FoundLast") U) ∧
  vk_S 5 lenS bytS g.2.2.1 g.2.2.2.1 (gA g) U U.heap ∧ vk_R RX4 57 "room" (g.2.2.1 0) U ∧ vk_R RX4 66 "door" (g.2.2.1 1) U ∧ vk_R RX4 71 "list" (g.2.2.1 2) U ∧ vk_R RX4 76 "heir" (g.2.2.1 3) U ∧ vk_R RX4 89 "house" (g.2.2.1 4) U ∧
  va_Z "java/lang/String" "COMPACT_STRINGS" "Z" (.int 1) (gA g) U U.heap ∧ va_Zq "jdk/internal/util/Preconditions" "SIOOBE_FORMATTER" "Ljava/util/function/BiFunction;" (gA g) U U.heap ∧ va_X (gS g) (gL g) (gX g) U U.heap ∧ gS g < gB g ∧ gL g ≤ 256 ∧ gB g ≤ U.heap.size
theorem Kn.lst {g : Gx} {U : State} (h : Kn g U) : va_X (gS g) (gL g) (gX g) U U.heap ∧ gS g < gB g ∧ gL g ≤ 256 ∧ gB g ≤ U.heap.size := h.2.2.2.2.2.2.2.2.2.2.2.2.2
theorem Kn.str {g : Gx} {U : State} (h : Kn g U) : vk_S 5 lenS bytS g.2.2.1 g.2.2.2.1 (gA g) U U.heap := h.2.2.2.2.2.1
theorem Kn.cmp {g : Gx} {U : State} (h : Kn g U) : va_Z "java/lang/String" "COMPACT_STRINGS" "Z" (.int 1) (gA g) U U.heap := h.2.2.2.2.2.2.2.2.2.2.2.1
theorem Kn.sio {g : Gx} {U : State} (h : Kn g U) : va_Zq "jdk/internal/util/Preconditions" "SIOOBE_FORMATTER" "Ljava/util/function/BiFunction;" (gA g) U U.heap := h.2.2.2.2.2.2.2.2.2.2.2.2.1
def Hp (g : Gx) (h : Hea) (H : Heap) : Prop := H.size = h.1 ∧ ∀ a c, h.2 a = some c → gB g ≤ a ∧ va_at (gD g) vwCl (a, ce (gY g) c) H
def rmk (d k n : Nat) : Room := { frames := d, cells := k, slots := n, locals := 36 * d + 2 }
def wsM (y : MethodName) (cc : ByteArray) (mL : Nat) (ret : Option FieldType) : List Cond := .code y cc mL ret :: tb
def MPc (g : Gx) (vs : List Value) (h : Hea) : Array Value → State → Prop := va_Pc vs (fun U => Hp g h U.heap ∧ Kn g U)
def MQc (g : Gx) (r : Option Value) (h' : Hea) : Array Value → State → Outcome → State → Prop := fun _ st oc t => oc = .returned r ∧ Hp g h' t.heap ∧ va_F (gA g) st t
/-- y's contract: from the abstract heap h with the arguments vs it returns res.1, and the heap is res.2; it makes k cells of n slots, and calls d deep -/
def MC (g : Gx) (y : MethodName) (cc : ByteArray) (mL : Nat) (ret : Option FieldType) (d k n : Nat) (vs : List Value) (h : Hea) (res : Option Value × Hea) : Prop :=
  ∀ l : Launch, Met l y (wsM y cc mL ret) (rmk d k n) (MPc g vs h) (MQc g res.1 res.2) k n (gA g)
/-- what stays during a method: Y is (maxLocals, what it returns, its name, how deep it calls, the cells and slots that it makes) -/
abbrev Ym : Type := Nat × Option FieldType × String × Nat × Nat × Nat
def Cx (g : Gx) (own : String) (cc : ByteArray) (Y : Ym) (p : Program) (s : State) (m : MethodId) (args : Array Value) (meth : Method) (c : Code) : Prop :=
  p.tables.exec = Jvm.exec ∧ c.code = cc ∧ c.maxLocals = Y.1 ∧ meth.sig.returnType = Y.2.1 ∧ meth.locks = false ∧ meth.name = Y.2.2.1 ∧ s.vm.findClass own = some m.cls ∧ (∀ w ∈ tb, w.before args s = true) ∧ Kn g s
abbrev Yr (Y : Ym) : Room := rmk Y.2.2.2.1 Y.2.2.2.2.1 Y.2.2.2.2.2
def AW (g : Gx) (own : String) (cc : ByteArray) (Y : Ym) (res : Option Value × Hea) (pc : Nat) (L : List (Nat × Value)) (st : List Value) (h : Hea) (ck cn : Nat) : Prop :=
  ∀ (l : Launch) (p : Program) (e : Env) (s : State) (m : MethodId) (args : Array Value) (below : List Frame) (meth : Method) (c : Code), Cx g own cc Y p s m args meth c →
    ∀ (H : Heap) (locs : List Loc) (ls : Array Slot), Hp g h H → va_S (gA g) s.heap H locs → lv_has ls Y.1 L →
      W p l e (Yr Y) s m args below meth c H locs ck cn (MQ below (MQc g res.1 res.2) args s Y.2.2.2.2.1 Y.2.2.2.2.2 (gA g)) (F0 m pc ls st)
section
variable {g : Gx} {own : String} {cc : ByteArray} {Y : Ym} {res : Option Value × Hea} {pc : Nat} {L : List (Nat × Value)} {st : List Value} {h : Hea} {ck cn : Nat}
theorem aw_pick (ks : List Nat) {L' : List (Nat × Value)} (hp : lv_pick L ks = L') (kk : AW g own cc Y res pc L' st h ck cn) : AW g own cc Y res pc L st h ck cn :=
  fun l p e s m args below meth c C H locs ls hP hS hl => kk l p e s m args below meth c C H locs ls hP hS (lv_sub hl ks hp)
theorem aw_iconst {n : Int} {v : Int32} (hd : decode cc pc = .ok (.iconst n, 1)) (hv : Int32.ofInt n = v) (kk : AW g own cc Y res (pc + 1) L (.int v :: st) h ck cn) : AW g own cc Y res pc L st h ck cn :=
  fun l p e s m args below meth c C H locs ls hP hS hl => lv_iconst C.1 C.2.1 hd hv (kk l p e s m args below meth c C H locs ls hP hS hl)
theorem aw_bipush {n : Int} {v : Int32} (hd : decode cc pc = .ok (.bipush n, 2)) (hv : (Int8.ofInt n).toInt32 = v) (kk : AW g own cc Y res (pc + 2) L (.int v :: st) h ck cn) : AW g own cc Y res pc L st h ck cn :=
  fun l p e s m args below meth c C H locs ls hP hS hl => lv_bipush C.1 C.2.1 hd hv (kk l p e s m args below meth c C H locs ls hP hS hl)
theorem aw_sipush {n : Int} {v : Int32} (hd : decode cc pc = .ok (.sipush n, 3)) (hv : (Int16.ofInt n).toInt32 = v) (kk : AW g own cc Y res (pc + 3) L (.int v :: st) h ck cn) : AW g own cc Y res pc L st h ck cn :=
  fun l p e s m args below meth c C H locs ls hP hS hl => lv_sipush C.1 C.2.1 hd hv (kk l p e s m args below meth c C H locs ls hP hS hl)
theorem aw_lconst {n : Fin 2} {v : Int64} (hd : decode cc pc = .ok (.lconst n, 1)) (hv : Int64.ofNat (n : Nat) = v) (kk : AW g own cc Y res (pc + 1) L (.long v :: st) h ck cn) : AW g own cc Y res pc L st h ck cn :=
  fun l p e s m args below meth c C H locs ls hP hS hl => lv_lconst C.1 C.2.1 hd hv (kk l p e s m args below meth c C H locs ls hP hS hl)
theorem aw_ldc {i : Nat} {v : Int32} (hw : Cond.constant own i v ∈ tb) (hd : decode cc pc = .ok (.ldc i, 2)) (kk : AW g own cc Y res (pc + 2) L (.int v :: st) h ck cn) : AW g own cc Y res pc L st h ck cn :=
  fun l p e s m args below meth c C H locs ls hP hS hl => lv_ldc C.1 C.2.1 C.2.2.2.2.2.2.1 (C.2.2.2.2.2.2.2.1 _ hw) hd (kk l p e s m args below meth c C H locs ls hP hS hl)
theorem aw_ldc2 {i : Nat} {v : Int64} (hw : Cond.constantLong own i v ∈ tb) (hd : decode cc pc = .ok (.ldc2_w i, 3)) (kk : AW g own cc Y res (pc + 3) L (.long v :: st) h ck cn) : AW g own cc Y res pc L st h ck cn :=
  fun l p e s m args below meth c C H locs ls hP hS hl => lv_ldc2 C.1 C.2.1 C.2.2.2.2.2.2.1 (C.2.2.2.2.2.2.2.1 _ hw) hd (kk l p e s m args below meth c C H locs ls hP hS hl)
theorem aw_iload_n {k : Fin 4} {x : Int32} (q : Nat) (hd : decode cc pc = .ok (.iload_n k, 1)) (hq : L[q]? = some ((k : Nat), .int x)) (kk : AW g own cc Y res (pc + 1) L (.int x :: st) h ck cn) : AW g own cc Y res pc L st h ck cn :=
  fun l p e s m args below meth c C H locs ls hP hS hl => lv_iload_n C.1 C.2.1 hd rfl (lv_at hl q hq) (kk l p e s m args below meth c C H locs ls hP hS hl)
theorem aw_iload {k : Nat} {x : Int32} (q : Nat) (hd : decode cc pc = .ok (.iload k, 2)) (hq : L[q]? = some (k, .int x)) (kk : AW g own cc Y res (pc + 2) L (.int x :: st) h ck cn) : AW g own cc Y res pc L st h ck cn :=
  fun l p e s m args below meth c C H locs ls hP hS hl => lv_iload C.1 C.2.1 hd (lv_at hl q hq) (kk l p e s m args below meth c C H locs ls hP hS hl)
theorem aw_lload_n {k : Fin 4} {x : Int64} (q : Nat) (hd : decode cc pc = .ok (.lload_n k, 1)) (hq : L[q]? = some ((k : Nat), .long x)) (kk : AW g own cc Y res (pc + 1) L (.long x :: st) h ck cn) : AW g own cc Y res pc L st h ck cn :=
  fun l p e s m args below meth c C H locs ls hP hS hl => lv_lload_n C.1 C.2.1 hd rfl (lv_at hl q hq) (kk l p e s m args below meth c C H locs ls hP hS hl)
theorem aw_lload {k : Nat} {x : Int64} (q : Nat) (hd : decode cc pc = .ok (.lload k, 2)) (hq : L[q]? = some (k, .long x)) (kk : AW g own cc Y res (pc + 2) L (.long x :: st) h ck cn) : AW g own cc Y res pc L st h ck cn :=
  fun l p e s m args below meth c C H locs ls hP hS hl => lv_lload C.1 C.2.1 hd (lv_at hl q hq) (kk l p e s m args below meth c C H locs ls hP hS hl)
theorem aw_aload_n {k : Fin 4} {x : Nat} (q : Nat) (hd : decode cc pc = .ok (.aload_n k, 1)) (hq : L[q]? = some ((k : Nat), .ref x)) (kk : AW g own cc Y res (pc + 1) L (.ref x :: st) h ck cn) : AW g own cc Y res pc L st h ck cn :=
  fun l p e s m args below meth c C H locs ls hP hS hl => lv_aload_n C.1 C.2.1 hd rfl (lv_at hl q hq) (kk l p e s m args below meth c C H locs ls hP hS hl)
theorem aw_aload {k : Nat} {x : Nat} (q : Nat) (hd : decode cc pc = .ok (.aload k, 2)) (hq : L[q]? = some (k, .ref x)) (kk : AW g own cc Y res (pc + 2) L (.ref x :: st) h ck cn) : AW g own cc Y res pc L st h ck cn :=
  fun l p e s m args below meth c C H locs ls hP hS hl => lv_aload C.1 C.2.1 hd (lv_at hl q hq) (kk l p e s m args below meth c C H locs ls hP hS hl)
/-- the list of known locals behind a store of one word, of two -/
def sto1 (i : Nat) (v : Value) (L : List (Nat × Value)) : List (Nat × Value) := (i, v) :: L.filter (fun q => !(q.1 == i) && !(q.1 + 1 == i && q.2.category == 2))
def sto2 (i : Nat) (v : Value) (L : List (Nat × Value)) : List (Nat × Value) := (i, v) :: L.filter (fun q => !(q.1 == i) && (!(q.1 == i + 1) && !(q.1 + 1 == i && q.2.category == 2)))
theorem aw_istore_n {k : Fin 4} {x : Int32} (L' : List (Nat × Value)) (hd : decode cc pc = .ok (.istore_n k, 1)) (hn : (k : Nat) < Y.1) (hL : sto1 k (.int x) L = L') (kk : AW g own cc Y res (pc + 1) L' st h ck cn) : AW g own cc Y res pc L (.int x :: st) h ck cn :=
  fun l p e s m args below meth c C H locs ls hP hS hl => lv_istore_n C.1 C.2.1 hd rfl hl hn hL (fun ls' hl' => kk l p e s m args below meth c C H locs ls' hP hS hl')
theorem aw_istore {k : Nat} {x : Int32} (L' : List (Nat × Value)) (hd : decode cc pc = .ok (.istore k, 2)) (hn : k < Y.1) (hL : sto1 k (.int x) L = L') (kk : AW g own cc Y res (pc + 2) L' st h ck cn) : AW g own cc Y res pc L (.int x :: st) h ck cn :=
  fun l p e s m args below meth c C H locs ls hP hS hl => lv_istore C.1 C.2.1 hd hl hn hL (fun ls' hl' => kk l p e s m args below meth c C H locs ls' hP hS hl')
theorem aw_lstore_n {k : Fin 4} {x : Int64} (L' : List (Nat × Value)) (hd : decode cc pc = .ok (.lstore_n k, 1)) (hn : (k : Nat) + 1 < Y.1) (hL : sto2 k (.long x) L = L') (kk : AW g own cc Y res (pc + 1) L' st h ck cn) : AW g own cc Y res pc L (.long x :: st) h ck cn :=
  fun l p e s m args below meth c C H locs ls hP hS hl => lv_lstore_n C.1 C.2.1 hd rfl hl hn hL (fun ls' hl' => kk l p e s m args below meth c C H locs ls' hP hS hl')
theorem aw_lstore {k : Nat} {x : Int64} (L' : List (Nat × Value)) (hd : decode cc pc = .ok (.lstore k, 2)) (hn : k + 1 < Y.1) (hL : sto2 k (.long x) L = L') (kk : AW g own cc Y res (pc + 2) L' st h ck cn) : AW g own cc Y res pc L (.long x :: st) h ck cn :=
  fun l p e s m args below meth c C H locs ls hP hS hl => lv_lstore C.1 C.2.1 hd hl hn hL (fun ls' hl' => kk l p e s m args below meth c C H locs ls' hP hS hl')
theorem aw_astore_n {k : Fin 4} {x : Nat} (L' : List (Nat × Value)) (hd : decode cc pc = .ok (.astore_n k, 1)) (hn : (k : Nat) < Y.1) (hL : sto1 k (.ref x) L = L') (kk : AW g own cc Y res (pc + 1) L' st h ck cn) : AW g own cc Y res pc L (.ref x :: st) h ck cn :=
  fun l p e s m args below meth c C H locs ls hP hS hl => lv_astore_n C.1 C.2.1 hd rfl hl hn hL (fun ls' hl' => kk l p e s m args below meth c C H locs ls' hP hS hl')
theorem aw_astore {k : Nat} {x : Nat} (L' : List (Nat × Value)) (hd : decode cc pc = .ok (.astore k, 2)) (hn : k < Y.1) (hL : sto1 k (.ref x) L = L') (kk : AW g own cc Y res (pc + 2) L' st h ck cn) : AW g own cc Y res pc L (.ref x :: st) h ck cn :=
  fun l p e s m args below meth c C H locs ls hP hS hl => lv_astore C.1 C.2.1 hd hl hn hL (fun ls' hl' => kk l p e s m args below meth c C H locs ls' hP hS hl')
theorem aw_iinc {k : Nat} {n : Int} {x : Int32} (v : Int32) (L' : List (Nat × Value)) (q : Nat) (hd : decode cc pc = .ok (.iinc k n, 3)) (hq : L[q]? = some (k, .int x)) (hv : x + Int32.ofInt n = v) (hn : k < Y.1) (hL : sto1 k (.int v) L = L') (kk : AW g own cc Y res (pc + 3) L' st h ck cn) : AW g own cc Y res pc L st h ck cn :=
  fun l p e s m args below meth c C H locs ls hP hS hl => lv_iinc C.1 C.2.1 hd hl hq hv hn hL (fun ls' hl' => kk l p e s m args below meth c C H locs ls' hP hS hl')
theorem aw_iadd {x y : Int32} (hd : decode cc pc = .ok (.iadd, 1)) (kk : AW g own cc Y res (pc + 1) L (.int (x + y) :: st) h ck cn) : AW g own cc Y res pc L (.int y :: .int x :: st) h ck cn :=
  fun l p e s m args below meth c C H locs ls hP hS hl => lv_iadd C.1 C.2.1 hd (kk l p e s m args below meth c C H locs ls hP hS hl)
theorem aw_isub {x y : Int32} (hd : decode cc pc = .ok (.isub, 1)) (kk : AW g own cc Y res (pc + 1) L (.int (x - y) :: st) h ck cn) : AW g own cc Y res pc L (.int y :: .int x :: st) h ck cn :=
  fun l p e s m args below meth c C H locs ls hP hS hl => lv_isub C.1 C.2.1 hd (kk l p e s m args below meth c C H locs ls hP hS hl)
theorem aw_imul {x y : Int32} (hd : decode cc pc = .ok (.imul, 1)) (kk : AW g own cc Y res (pc + 1) L (.int (x * y) :: st) h ck cn) : AW g own cc Y res pc L (.int y :: .int x :: st) h ck cn :=
  fun l p e s m args below meth c C H locs ls hP hS hl => lv_imul C.1 C.2.1 hd (kk l p e s m args below meth c C H locs ls hP hS hl)
theorem aw_iand {x y : Int32} (hd : decode cc pc = .ok (.iand, 1)) (kk : AW g own cc Y res (pc + 1) L (.int (x &&& y) :: st) h ck cn) : AW g own cc Y res pc L (.int y :: .int x :: st) h ck cn :=
  fun l p e s m args below meth c C H locs ls hP hS hl => lv_iand C.1 C.2.1 hd (kk l p e s m args below meth c C H locs ls hP hS hl)
theorem aw_ior {x y : Int32} (hd : decode cc pc = .ok (.ior, 1)) (kk : AW g own cc Y res (pc + 1) L (.int (x ||| y) :: st) h ck cn) : AW g own cc Y res pc L (.int y :: .int x :: st) h ck cn :=
  fun l p e s m args below meth c C H locs ls hP hS hl => lv_ior C.1 C.2.1 hd (kk l p e s m args below meth c C H locs ls hP hS hl)
theorem aw_ixor {x y : Int32} (hd : decode cc pc = .ok (.ixor, 1)) (kk : AW g own cc Y res (pc + 1) L (.int (x ^^^ y) :: st) h ck cn) : AW g own cc Y res pc L (.int y :: .int x :: st) h ck cn :=
  fun l p e s m args below meth c C H locs ls hP hS hl => lv_ixor C.1 C.2.1 hd (kk l p e s m args below meth c C H locs ls hP hS hl)
theorem aw_ishl {x y : Int32} (hd : decode cc pc = .ok (.ishl, 1)) (kk : AW g own cc Y res (pc + 1) L (.int (x <<< (y &&& 31)) :: st) h ck cn) : AW g own cc Y res pc L (.int y :: .int x :: st) h ck cn :=
  fun l p e s m args below meth c C H locs ls hP hS hl => lv_ishl C.1 C.2.1 hd (kk l p e s m args below meth c C H locs ls hP hS hl)
theorem aw_ishr {x y : Int32} (hd : decode cc pc = .ok (.ishr, 1)) (kk : AW g own cc Y res (pc + 1) L (.int (x >>> (y &&& 31)) :: st) h ck cn) : AW g own cc Y res pc L (.int y :: .int x :: st) h ck cn :=
  fun l p e s m args below meth c C H locs ls hP hS hl => lv_ishr C.1 C.2.1 hd (kk l p e s m args below meth c C H locs ls hP hS hl)
theorem aw_ladd {x y : Int64} (hd : decode cc pc = .ok (.ladd, 1)) (kk : AW g own cc Y res (pc + 1) L (.long (x + y) :: st) h ck cn) : AW g own cc Y res pc L (.long y :: .long x :: st) h ck cn :=
  fun l p e s m args below meth c C H locs ls hP hS hl => lv_ladd C.1 C.2.1 hd (kk l p e s m args below meth c C H locs ls hP hS hl)
theorem aw_lsub {x y : Int64} (hd : decode cc pc = .ok (.lsub, 1)) (kk : AW g own cc Y res (pc + 1) L (.long (x - y) :: st) h ck cn) : AW g own cc Y res pc L (.long y :: .long x :: st) h ck cn :=
  fun l p e s m args below meth c C H locs ls hP hS hl => lv_lsub C.1 C.2.1 hd (kk l p e s m args below meth c C H locs ls hP hS hl)
theorem aw_lmul {x y : Int64} (hd : decode cc pc = .ok (.lmul, 1)) (kk : AW g own cc Y res (pc + 1) L (.long (x * y) :: st) h ck cn) : AW g own cc Y res pc L (.long y :: .long x :: st) h ck cn :=
  fun l p e s m args below meth c C H locs ls hP hS hl => lv_lmul C.1 C.2.1 hd (kk l p e s m args below meth c C H locs ls hP hS hl)
theorem aw_idiv0 {x y : Int32} (hd : decode cc pc = .ok (.idiv, 1)) (hne : ¬ y = 0) (kk : AW g own cc Y res (pc + 1) L (.int (x / y) :: st) h ck cn) : AW g own cc Y res pc L (.int y :: .int x :: st) h ck cn :=
  fun l p e s m args below meth c C H locs ls hP hS hl => lv_idiv C.1 C.2.1 hd hne (kk l p e s m args below meth c C H locs ls hP hS hl)
theorem aw_idiv {x y : Int32} {ρ : Type} {K : Unit → Option ρ} {o : ρ} (hd : decode cc pc = .ok (.idiv, 1)) (hf : (nz y).bind K = some o) (kk : K () = some o → AW g own cc Y res (pc + 1) L (.int (x / y) :: st) h ck cn) : AW g own cc Y res pc L (.int y :: .int x :: st) h ck cn := by
  by_cases hy : y = 0
  · rw [nz, if_pos hy] at hf
    cases hf
  · rw [nz, if_neg hy] at hf
    exact aw_idiv0 hd hy (kk hf)
theorem aw_irem0 {x y : Int32} (hd : decode cc pc = .ok (.irem, 1)) (hne : ¬ y = 0) (kk : AW g own cc Y res (pc + 1) L (.int (x - x / y * y) :: st) h ck cn) : AW g own cc Y res pc L (.int y :: .int x :: st) h ck cn :=
  fun l p e s m args below meth c C H locs ls hP hS hl => lv_irem C.1 C.2.1 hd hne (kk l p e s m args below meth c C H locs ls hP hS hl)
theorem aw_irem {x y : Int32} {ρ : Type} {K : Unit → Option ρ} {o : ρ} (hd : decode cc pc = .ok (.irem, 1)) (hf : (nz y).bind K = some o) (kk : K () = some o → AW g own cc Y res (pc + 1) L (.int (x - x / y * y) :: st) h ck cn) : AW g own cc Y res pc L (.int y :: .int x :: st) h ck cn := by
  by_cases hy : y = 0
  · rw [nz, if_pos hy] at hf
    cases hf
  · rw [nz, if_neg hy] at hf
    exact aw_irem0 hd hy (kk hf)
theorem aw_ldiv0 {x y : Int64} (hd : decode cc pc = .ok (.ldiv, 1)) (hne : ¬ y = 0) (kk : AW g own cc Y res (pc + 1) L (.long (x / y) :: st) h ck cn) : AW g own cc Y res pc L (.long y :: .long x :: st) h ck cn :=
  fun l p e s m args below meth c C H locs ls hP hS hl => lv_ldiv C.1 C.2.1 hd hne (kk l p e s m args below meth c C H locs ls hP hS hl)
theorem aw_ldiv {x y : Int64} {ρ : Type} {K : Unit → Option ρ} {o : ρ} (hd : decode cc pc = .ok (.ldiv, 1)) (hf : (nzJ y).bind K = some o) (kk : K () = some o → AW g own cc Y res (pc + 1) L (.long (x / y) :: st) h ck cn) : AW g own cc Y res pc L (.long y :: .long x :: st) h ck cn := by
  by_cases hy : y = 0
  · rw [nzJ, if_pos hy] at hf
    cases hf
  · rw [nzJ, if_neg hy] at hf
    exact aw_ldiv0 hd hy (kk hf)
theorem aw_lrem0 {x y : Int64} (hd : decode cc pc = .ok (.lrem, 1)) (hne : ¬ y = 0) (kk : AW g own cc Y res (pc + 1) L (.long (x - x / y * y) :: st) h ck cn) : AW g own cc Y res pc L (.long y :: .long x :: st) h ck cn :=
  fun l p e s m args below meth c C H locs ls hP hS hl => lv_lrem C.1 C.2.1 hd hne (kk l p e s m args below meth c C H locs ls hP hS hl)
theorem aw_lrem {x y : Int64} {ρ : Type} {K : Unit → Option ρ} {o : ρ} (hd : decode cc pc = .ok (.lrem, 1)) (hf : (nzJ y).bind K = some o) (kk : K () = some o → AW g own cc Y res (pc + 1) L (.long (x - x / y * y) :: st) h ck cn) : AW g own cc Y res pc L (.long y :: .long x :: st) h ck cn := by
  by_cases hy : y = 0
  · rw [nzJ, if_pos hy] at hf
    cases hf
  · rw [nzJ, if_neg hy] at hf
    exact aw_lrem0 hd hy (kk hf)
theorem aw_i2l {x : Int32} (hd : decode cc pc = .ok (.i2l, 1)) (kk : AW g own cc Y res (pc + 1) L (.long x.toInt64 :: st) h ck cn) : AW g own cc Y res pc L (.int x :: st) h ck cn :=
  fun l p e s m args below meth c C H locs ls hP hS hl => lv_i2l C.1 C.2.1 hd rfl (kk l p e s m args below meth c C H locs ls hP hS hl)
theorem aw_l2i {x : Int64} (hd : decode cc pc = .ok (.l2i, 1)) (kk : AW g own cc Y res (pc + 1) L (.int x.toInt32 :: st) h ck cn) : AW g own cc Y res pc L (.long x :: st) h ck cn :=
  fun l p e s m args below meth c C H locs ls hP hS hl => lv_l2i C.1 C.2.1 hd rfl (kk l p e s m args below meth c C H locs ls hP hS hl)
theorem aw_i2b {x : Int32} (hd : decode cc pc = .ok (.i2b, 1)) (kk : AW g own cc Y res (pc + 1) L (.int x.toInt8.toInt32 :: st) h ck cn) : AW g own cc Y res pc L (.int x :: st) h ck cn :=
  fun l p e s m args below meth c C H locs ls hP hS hl => lv_i2b C.1 C.2.1 hd rfl (kk l p e s m args below meth c C H locs ls hP hS hl)
theorem aw_lcmp {x y : Int64} (hd : decode cc pc = .ok (.lcmp, 1)) (kk : AW g own cc Y res (pc + 1) L (.int (lg_cmp x y) :: st) h ck cn) : AW g own cc Y res pc L (.long y :: .long x :: st) h ck cn :=
  fun l p e s m args below meth c C H locs ls hP hS hl => W.lcmp C.1 C.2.1 hd (kk l p e s m args below meth c C H locs ls hP hS hl)
theorem aw_dup {v : Value} (hd : decode cc pc = .ok (.dup, 1)) (hv : v.category = 1) (kk : AW g own cc Y res (pc + 1) L (v :: v :: st) h ck cn) : AW g own cc Y res pc L (v :: st) h ck cn :=
  fun l p e s m args below meth c C H locs ls hP hS hl => lv_dup C.1 C.2.1 hd hv (kk l p e s m args below meth c C H locs ls hP hS hl)
theorem aw_pop {v : Value} (hd : decode cc pc = .ok (.pop, 1)) (hv : v.category = 1) (kk : AW g own cc Y res (pc + 1) L st h ck cn) : AW g own cc Y res pc L (v :: st) h ck cn :=
  fun l p e s m args below meth c C H locs ls hP hS hl => lv_pop C.1 C.2.1 hd hv (kk l p e s m args below meth c C H locs ls hP hS hl)
theorem aw_dup2 {va vb : Value} (hd : decode cc pc = .ok (.dup2, 1)) (hva : va.category = 1) (hvb : vb.category = 1) (kk : AW g own cc Y res (pc + 1) L (va :: vb :: va :: vb :: st) h ck cn) : AW g own cc Y res pc L (va :: vb :: st) h ck cn :=
  fun l p e s m args below meth c C H locs ls hP hS hl => lv_dup2_11 C.1 C.2.1 hd hva hvb (kk l p e s m args below meth c C H locs ls hP hS hl)
theorem aw_goto {off : Int} {tgt : Nat} (hd : decode cc pc = .ok (.goto off, 3)) (ht : (pc : Int) + off = (tgt : Int)) (kk : AW g own cc Y res tgt L st h ck cn) : AW g own cc Y res pc L st h ck cn :=
  fun l p e s m args below meth c C H locs ls hP hS hl => lv_goto C.1 C.2.1 hd ht (kk l p e s m args below meth c C H locs ls hP hS hl)
theorem aw_if_eq {x : Int32} {off : Int} {tgt : Nat} (hd : decode cc pc = .ok (.ifCond .eq off, 3)) (ht : (pc : Int) + off = (tgt : Int)) (kt : x = 0 → AW g own cc Y res tgt L st h ck cn) (kf : ¬ x = 0 → AW g own cc Y res (pc + 3) L st h ck cn) : AW g own cc Y res pc L (.int x :: st) h ck cn :=
  fun l p e s m args below meth c C H locs ls hP hS hl => lv_if_eq C.1 C.2.1 hd ht (fun hc => kt hc l p e s m args below meth c C H locs ls hP hS hl) (fun hc => kf hc l p e s m args below meth c C H locs ls hP hS hl)
theorem aw_if_ne {x : Int32} {off : Int} {tgt : Nat} (hd : decode cc pc = .ok (.ifCond .ne off, 3)) (ht : (pc : Int) + off = (tgt : Int)) (kt : ¬ x = 0 → AW g own cc Y res tgt L st h ck cn) (kf : x = 0 → AW g own cc Y res (pc + 3) L st h ck cn) : AW g own cc Y res pc L (.int x :: st) h ck cn :=
  fun l p e s m args below meth c C H locs ls hP hS hl => lv_if_ne C.1 C.2.1 hd ht (fun hc => kt hc l p e s m args below meth c C H locs ls hP hS hl) (fun hc => kf hc l p e s m args below meth c C H locs ls hP hS hl)
theorem aw_if_lt {x : Int32} {off : Int} {tgt : Nat} (hd : decode cc pc = .ok (.ifCond .lt off, 3)) (ht : (pc : Int) + off = (tgt : Int)) (kt : x < 0 → AW g own cc Y res tgt L st h ck cn) (kf : ¬ x < 0 → AW g own cc Y res (pc + 3) L st h ck cn) : AW g own cc Y res pc L (.int x :: st) h ck cn :=
  fun l p e s m args below meth c C H locs ls hP hS hl => lv_if_lt C.1 C.2.1 hd ht (fun hc => kt hc l p e s m args below meth c C H locs ls hP hS hl) (fun hc => kf hc l p e s m args below meth c C H locs ls hP hS hl)
theorem aw_if_ge {x : Int32} {off : Int} {tgt : Nat} (hd : decode cc pc = .ok (.ifCond .ge off, 3)) (ht : (pc : Int) + off = (tgt : Int)) (kt : 0 ≤ x → AW g own cc Y res tgt L st h ck cn) (kf : ¬ 0 ≤ x → AW g own cc Y res (pc + 3) L st h ck cn) : AW g own cc Y res pc L (.int x :: st) h ck cn :=
  fun l p e s m args below meth c C H locs ls hP hS hl => lv_if_ge C.1 C.2.1 hd ht (fun hc => kt hc l p e s m args below meth c C H locs ls hP hS hl) (fun hc => kf hc l p e s m args below meth c C H locs ls hP hS hl)
theorem aw_if_gt {x : Int32} {off : Int} {tgt : Nat} (hd : decode cc pc = .ok (.ifCond .gt off, 3)) (ht : (pc : Int) + off = (tgt : Int)) (kt : 0 < x → AW g own cc Y res tgt L st h ck cn) (kf : ¬ 0 < x → AW g own cc Y res (pc + 3) L st h ck cn) : AW g own cc Y res pc L (.int x :: st) h ck cn :=
  fun l p e s m args below meth c C H locs ls hP hS hl => lv_if_gt C.1 C.2.1 hd ht (fun hc => kt hc l p e s m args below meth c C H locs ls hP hS hl) (fun hc => kf hc l p e s m args below meth c C H locs ls hP hS hl)
theorem aw_if_le {x : Int32} {off : Int} {tgt : Nat} (hd : decode cc pc = .ok (.ifCond .le off, 3)) (ht : (pc : Int) + off = (tgt : Int)) (kt : x ≤ 0 → AW g own cc Y res tgt L st h ck cn) (kf : ¬ x ≤ 0 → AW g own cc Y res (pc + 3) L st h ck cn) : AW g own cc Y res pc L (.int x :: st) h ck cn :=
  fun l p e s m args below meth c C H locs ls hP hS hl => lv_if_le C.1 C.2.1 hd ht (fun hc => kt hc l p e s m args below meth c C H locs ls hP hS hl) (fun hc => kf hc l p e s m args below meth c C H locs ls hP hS hl)
theorem aw_icmp_eq {x y : Int32} {off : Int} {tgt : Nat} (hd : decode cc pc = .ok (.if_icmp .eq off, 3)) (ht : (pc : Int) + off = (tgt : Int)) (kt : x = y → AW g own cc Y res tgt L st h ck cn) (kf : ¬ x = y → AW g own cc Y res (pc + 3) L st h ck cn) : AW g own cc Y res pc L (.int y :: .int x :: st) h ck cn :=
  fun l p e s m args below meth c C H locs ls hP hS hl => lv_icmp_eq C.1 C.2.1 hd ht (fun hc => kt hc l p e s m args below meth c C H locs ls hP hS hl) (fun hc => kf hc l p e s m args below meth c C H locs ls hP hS hl)
theorem aw_icmp_ne {x y : Int32} {off : Int} {tgt : Nat} (hd : decode cc pc = .ok (.if_icmp .ne off, 3)) (ht : (pc : Int) + off = (tgt : Int)) (kt : ¬ x = y → AW g own cc Y res tgt L st h ck cn) (kf : x = y → AW g own cc Y res (pc + 3) L st h ck cn) : AW g own cc Y res pc L (.int y :: .int x :: st) h ck cn :=
  fun l p e s m args below meth c C H locs ls hP hS hl => lv_icmp_ne C.1 C.2.1 hd ht (fun hc => kt hc l p e s m args below meth c C H locs ls hP hS hl) (fun hc => kf hc l p e s m args below meth c C H locs ls hP hS hl)
theorem aw_icmp_lt {x y : Int32} {off : Int} {tgt : Nat} (hd : decode cc pc = .ok (.if_icmp .lt off, 3)) (ht : (pc : Int) + off = (tgt : Int)) (kt : x < y → AW g own cc Y res tgt L st h ck cn) (kf : ¬ x < y → AW g own cc Y res (pc + 3) L st h ck cn) : AW g own cc Y res pc L (.int y :: .int x :: st) h ck cn :=
  fun l p e s m args below meth c C H locs ls hP hS hl => lv_icmp_lt C.1 C.2.1 hd ht (fun hc => kt hc l p e s m args below meth c C H locs ls hP hS hl) (fun hc => kf hc l p e s m args below meth c C H locs ls hP hS hl)
theorem aw_icmp_ge {x y : Int32} {off : Int} {tgt : Nat} (hd : decode cc pc = .ok (.if_icmp .ge off, 3)) (ht : (pc : Int) + off = (tgt : Int)) (kt : y ≤ x → AW g own cc Y res tgt L st h ck cn) (kf : ¬ y ≤ x → AW g own cc Y res (pc + 3) L st h ck cn) : AW g own cc Y res pc L (.int y :: .int x :: st) h ck cn :=
  fun l p e s m args below meth c C H locs ls hP hS hl => lv_icmp_ge C.1 C.2.1 hd ht (fun hc => kt hc l p e s m args below meth c C H locs ls hP hS hl) (fun hc => kf hc l p e s m args below meth c C H locs ls hP hS hl)
theorem aw_icmp_gt {x y : Int32} {off : Int} {tgt : Nat} (hd : decode cc pc = .ok (.if_icmp .gt off, 3)) (ht : (pc : Int) + off = (tgt : Int)) (kt : y < x → AW g own cc Y res tgt L st h ck cn) (kf : ¬ y < x → AW g own cc Y res (pc + 3) L st h ck cn) : AW g own cc Y res pc L (.int y :: .int x :: st) h ck cn :=
  fun l p e s m args below meth c C H locs ls hP hS hl => lv_icmp_gt C.1 C.2.1 hd ht (fun hc => kt hc l p e s m args below meth c C H locs ls hP hS hl) (fun hc => kf hc l p e s m args below meth c C H locs ls hP hS hl)
theorem aw_icmp_le {x y : Int32} {off : Int} {tgt : Nat} (hd : decode cc pc = .ok (.if_icmp .le off, 3)) (ht : (pc : Int) + off = (tgt : Int)) (kt : x ≤ y → AW g own cc Y res tgt L st h ck cn) (kf : ¬ x ≤ y → AW g own cc Y res (pc + 3) L st h ck cn) : AW g own cc Y res pc L (.int y :: .int x :: st) h ck cn :=
  fun l p e s m args below meth c C H locs ls hP hS hl => lv_icmp_le C.1 C.2.1 hd ht (fun hc => kt hc l p e s m args below meth c C H locs ls hP hS hl) (fun hc => kf hc l p e s m args below meth c C H locs ls hP hS hl)
theorem aw_tsIn {dflt lo hi : Int} {offs : Array Int} {len : Nat} {x : Int32} {off : Int} {tgt : Nat} (hd : decode cc pc = .ok (.tableswitch dflt lo hi offs, len)) (h1 : ¬ x.toInt < lo) (h2 : ¬ hi < x.toInt) (ho : offs[(x.toInt - lo).toNat]? = some off) (ht : (pc : Int) + off = (tgt : Int)) (kk : AW g own cc Y res tgt L st h ck cn) : AW g own cc Y res pc L (.int x :: st) h ck cn :=
  fun l p e s m args below meth c C H locs ls hP hS hl => lv_tableIn C.1 C.2.1 hd h1 h2 ho ht (kk l p e s m args below meth c C H locs ls hP hS hl)
theorem aw_tsOut {dflt lo hi : Int} {offs : Array Int} {len : Nat} {x : Int32} {tgt : Nat} (hd : decode cc pc = .ok (.tableswitch dflt lo hi offs, len)) (ho : x.toInt < lo ∨ hi < x.toInt) (ht : (pc : Int) + dflt = (tgt : Int)) (kk : AW g own cc Y res tgt L st h ck cn) : AW g own cc Y res pc L (.int x :: st) h ck cn :=
  fun l p e s m args below meth c C H locs ls hP hS hl => lv_tableOut C.1 C.2.1 hd ho ht (kk l p e s m args below meth c C H locs ls hP hS hl)
end
