-- texts: their bytes; 0 "tfkcbador", 1 "y", 2 "no such one"
def strB : List (List Int32) := [[116, 102, 107, 99, 98, 97, 100, 111, 114], [121], [110, 111, 32, 115, 117, 99, 104, 32, 111, 110, 101]]
def strN : List Nat := [9, 1, 11]
abbrev Own (X : CX) : Nat → Prop := fun q => X.2.1 ≤ q
/-- the texts and statics that are others': in the tables, and in the heap -/
def NEST : List (String × Nat × MethodName × String) := [(RX11, 62, yX10_init, "SevenTown"), (RX11, 87, yX8_init, "SevenTown"), (RX1, 51, yX11_firstSet, "SevenTown"), (RX1, 58, yX11_nextSet, "SevenTown"), (RX9, 55, yX11_firstSet, "SevenTown"), (RX9, 64, yX11_nextSet, "SevenTown")]
def StrV (X : CX) (U : State) : Prop := (∀ q ∈ NEST, va_Nw (.methodLinkNest q.1 q.2.1 q.2.2.1 q.2.2.2) U) ∧ vk_R "SevenTown$RuleText" 85 "tfkcbador" (X.2.2.2.2.1 0) U ∧ vk_R "SevenTownModel" 32 "tfkcbador" (X.2.2.2.2.1 0) U ∧ vk_R "SevenTownModel" 26 "y" (X.2.2.2.2.1 1) U ∧ vk_R "SevenTown" 189 "no such one" (X.2.2.2.2.1 2) U
def StrH (X : CX) (U : State) (H : Heap) : Prop := vk_S 3 strN strB X.2.2.2.2.1 X.2.2.2.2.2 (Own X) U H ∧ va_Z "java/lang/String" "COMPACT_STRINGS" "Z" (.int 1) (Own X) U H ∧ (va_Z "jdk/internal/util/Preconditions" "SIOOBE_FORMATTER" "Ljava/util/function/BiFunction;" .null (Own X) U H ∨ va_Z "jdk/internal/util/Preconditions" "SIOOBE_FORMATTER" "Ljava/util/function/BiFunction;" (.ref (X.2.2.2.2.1 500)) (Own X) U H)
theorem StrV.warm {X : CX} {s U : State} (hW : s.WarmedH U.vm) (h : StrV X s) : StrV X U := ⟨fun q hq => (h.1 q hq).warmM hW, h.2.1.warm hW, h.2.2.1.warm hW, h.2.2.2.1.warm hW, h.2.2.2.2.warm hW⟩
theorem StrV.same {X : CX} {s U : State} (hv : U.vm = s.vm) (h : StrV X s) : StrV X U := ⟨fun q hq => va_Nw.same rfl hv.symm (h.1 q hq), h.2.1.same hv, h.2.2.1.same hv, h.2.2.2.1.same hv, h.2.2.2.2.same hv⟩
theorem StrH.moved {X : CX} {u U : State} {H : Heap} (hvm : u.vm.Alike U.vm) (h : StrH X u H) : StrH X U H := ⟨h.1.moved hvm, h.2.1.moved hvm, h.2.2.imp (fun q => q.moved hvm) (fun q => q.moved hvm)⟩
theorem StrH.kept {X : CX} {U : State} {H H1 : Heap} (h : StrH X U H) (hq : ∀ a : Nat, a < H.size → ¬ Own X a → H1[a]? = H[a]?) : StrH X U H1 := ⟨h.1.kept hq, h.2.1.kept hq, h.2.2.imp (fun q => q.kept hq) (fun q => q.kept hq)⟩
/-- array classes of the five kinds -/
def tysOf (X : CX) : List (ClassId × FieldType) := [(X.2.2.2.1 20, .int), (X.2.2.2.1 21, .byte), (X.2.2.2.1 22, .boolean), (X.2.2.2.1 23, .long), (X.2.2.2.1 24, .array .int)]
/-- what is fixed while a method's frame stands -/
def Fr (X : CX) (mt : MT) (p : Program) (s : State) (m : MethodId) (args : Array Value) (meth : Method) (c : Code) : Prop :=
  p.tables.exec = Jvm.exec ∧ c.code = mt.2.1 ∧ meth.sig.returnType = mt.2.2.2 ∧ meth.locks = false ∧ c.maxLocals = mt.2.2.1 ∧ s.vm.findClass mt.1.cls = some m.cls ∧ meth.name = mt.1.name ∧ (∀ w ∈ BIG, w.before args s = true) ∧ va_K X.2.2.1 vwCl (tysOf X) s ∧ StrV X s ∧ StrH X s s.heap ∧ X.2.1 ≤ s.heap.size
/-- the heap, for real -/
def Hp (X : CX) (h : AH) (nx : Nat) (s : State) (H : Heap) (locs : List Loc) : Prop := va_P X.2.2.1 vwCl (wsL X h nx) H ∧ va_S (Own X) s.heap H locs
abbrev AX : Type := Nat × Nat × Nat × Nat
abbrev ZX : Type := Array Value → List Frame → State → State → Prop
def V (X : CX) (mt : MT) (R : Room) (Z : ZX) (A : AX) (pc : Nat) (L : List (Option Value)) (st : List Value) (h : AH) : Prop :=
  ∀ (p : Program) (e : Env) (s : State) (m : MethodId) (args : Array Value) (below : List Frame) (meth : Method) (c : Code) (H : Heap) (locs : List Loc) (ls : Array Slot),
    Fr X mt p s m args meth c → Hp X h A.1 s H locs → H.size = A.2.1 → lvR X ls mt.2.2.1 L →
    W p X.1 e R s m args below meth c H locs A.2.2.1 A.2.2.2 (Z args below s) (F0 m pc ls (st.map (tr X)))
section VR
variable {X : CX} {mt : MT} {R : Room} {Z : ZX} {A : AX} {pc : Nat} {L : List (Option Value)} {st : List Value} {h : AH}
/-- fewer locals are known from here on -/
theorem v_weak {L' : List (Option Value)} (hw : ∀ (i : Nat) (v : Value), L'[i]? = some (some v) → L[i]? = some (some v)) (q : V X mt R Z A pc L' st h) : V X mt R Z A pc L st h :=
  fun p e s m args below meth c H locs ls hF hH hz hl => q p e s m args below meth c H locs ls hF hH hz (lvR_weak hl hw)
/-- L' knows no more than L, place by place -/
def lvLe : List (Option Value) → List (Option Value) → Prop
  | [], _ => True
  | none :: t, _ :: u => lvLe t u
  | some v :: t, some w :: u => v = w ∧ lvLe t u
  | none :: _, [] => False
  | some _ :: _, _ => False
theorem lvLe_at : ∀ (L' L : List (Option Value)), lvLe L' L → ∀ (i : Nat) (v : Value), L'[i]? = some (some v) → L[i]? = some (some v)
  | [], _, _, i, v, hi => by simp at hi
  | none :: t, [], q, i, v, hi => q.elim
  | some _ :: t, [], q, i, v, hi => q.elim
  | some _ :: t, none :: u, q, i, v, hi => q.elim
  | none :: t, o :: u, q, 0, v, hi => by simp at hi
  | none :: t, o :: u, q, i + 1, v, hi => by
    simp only [List.getElem?_cons_succ] at hi ⊢
    exact lvLe_at t u q i v hi
  | some w :: t, some x :: u, q, 0, v, hi => by
    simp only [List.getElem?_cons_zero, Option.some.injEq] at hi ⊢
    rw [← q.1, hi]
  | some w :: t, some x :: u, q, i + 1, v, hi => by
    simp only [List.getElem?_cons_succ] at hi ⊢
    exact lvLe_at t u q.2 i v hi
theorem v_drop {L' : List (Option Value)} (hw : lvLe L' L) (q : V X mt R Z A pc L' st h) : V X mt R Z A pc L st h := v_weak (lvLe_at L' L hw) q
theorem v_iconst {v : Int} {x : Int32} (hd : decode mt.2.1 pc = .ok (.iconst v, 1)) (hx : Int32.ofInt v = x) (q : V X mt R Z A (pc + 1) L (.int x :: st) h) : V X mt R Z A pc L st h := by
  intro p e s m args below meth c H locs ls hF hH hz hl
  exact lv_iconst hF.1 hF.2.1 hd hx (q p e s m args below meth c H locs ls hF hH hz hl)
theorem lvR_sto1 {ls' : Array Slot} {n i : Nat} {v w : Value} (hw : tr X v = w) (h1 : lv_has ls' n ((i, w) :: (lvl 0 (L.map (Option.map (tr X)))).filter (fun q => !(q.1 == i) && !(q.1 + 1 == i && q.2.category == 2)))) : lvR X ls' n (sto i v L) := by
  subst hw
  refine lvR_sto h1 (fun j w hj => ?_)
  rcases hj with ⟨a, b⟩ | ⟨a, b, c, d⟩
  · rw [a, b]; exact List.mem_cons_self
  · refine List.mem_cons_of_mem _ (List.mem_filter.mpr ⟨b, ?_⟩)
    simp only [Bool.and_eq_true, Bool.not_eq_true', beq_eq_false_iff_ne, ne_eq, Bool.and_eq_false_iff]
    refine ⟨a, ?_⟩
    by_cases e : j + 1 = i
    · exact Or.inr (fun z => c ⟨e, z⟩)
    · exact Or.inl e
theorem lvR_sto2 {ls' : Array Slot} {n i : Nat} {v w : Value} (hw : tr X v = w) (h1 : lv_has ls' n ((i, w) :: (lvl 0 (L.map (Option.map (tr X)))).filter (fun q => !(q.1 == i) && (!(q.1 == i + 1) && !(q.1 + 1 == i && q.2.category == 2))))) (hc : v.category = 2 := by rfl) : lvR X ls' n (sto i v L) := by
  subst hw
  refine lvR_sto h1 (fun j w hj => ?_)
  rcases hj with ⟨a, b⟩ | ⟨a, b, c, d⟩
  · rw [a, b]; exact List.mem_cons_self
  · refine List.mem_cons_of_mem _ (List.mem_filter.mpr ⟨b, ?_⟩)
    simp only [Bool.and_eq_true, Bool.not_eq_true', beq_eq_false_iff_ne, ne_eq, Bool.and_eq_false_iff]
    refine ⟨a, fun z => d ⟨hc, z⟩, ?_⟩
    by_cases e : j + 1 = i
    · exact Or.inr (fun z => c ⟨e, z⟩)
    · exact Or.inl e
theorem v_bipush {v : Int} {x : Int32} (hd : decode mt.2.1 pc = .ok (.bipush v, 2)) (hx : (Int8.ofInt v).toInt32 = x) (q : V X mt R Z A (pc + 2) L (.int x :: st) h) : V X mt R Z A pc L (st) h := by
  intro p e s m args below meth c H locs ls hF hH hz hl
  exact lv_bipush hF.1 hF.2.1 hd hx (q p e s m args below meth c H locs ls hF hH hz hl)
theorem v_sipush {v : Int} {x : Int32} (hd : decode mt.2.1 pc = .ok (.sipush v, 3)) (hx : (Int16.ofInt v).toInt32 = x) (q : V X mt R Z A (pc + 3) L (.int x :: st) h) : V X mt R Z A pc L (st) h := by
  intro p e s m args below meth c H locs ls hF hH hz hl
  exact lv_sipush hF.1 hF.2.1 hd hx (q p e s m args below meth c H locs ls hF hH hz hl)
theorem v_lconst {v : Fin 2} {x : Int64} (hd : decode mt.2.1 pc = .ok (.lconst v, 1)) (hx : Int64.ofNat (v : Nat) = x) (q : V X mt R Z A (pc + 1) L (.long x :: st) h) : V X mt R Z A pc L (st) h := by
  intro p e s m args below meth c H locs ls hF hH hz hl
  exact lv_lconst hF.1 hF.2.1 hd hx (q p e s m args below meth c H locs ls hF hH hz hl)
theorem v_iload_n {k : Fin 4} {x : Int32} (hd : decode mt.2.1 pc = .ok (.iload_n k, 1)) (hL : L[(k : Nat)]? = some (some (.int x))) (q : V X mt R Z A (pc + 1) L (.int x :: st) h) : V X mt R Z A pc L (st) h := by
  intro p e s m args below meth c H locs ls hF hH hz hl
  exact lv_iload_n hF.1 hF.2.1 hd rfl (lvR_at hl hL) (q p e s m args below meth c H locs ls hF hH hz hl)
theorem v_iload {k : Nat} {x : Int32} (hd : decode mt.2.1 pc = .ok (.iload k, 2)) (hL : L[k]? = some (some (.int x))) (q : V X mt R Z A (pc + 2) L (.int x :: st) h) : V X mt R Z A pc L (st) h := by
  intro p e s m args below meth c H locs ls hF hH hz hl
  exact lv_iload hF.1 hF.2.1 hd (lvR_at hl hL) (q p e s m args below meth c H locs ls hF hH hz hl)
theorem v_lload_n {k : Fin 4} {x : Int64} (hd : decode mt.2.1 pc = .ok (.lload_n k, 1)) (hL : L[(k : Nat)]? = some (some (.long x))) (q : V X mt R Z A (pc + 1) L (.long x :: st) h) : V X mt R Z A pc L (st) h := by
  intro p e s m args below meth c H locs ls hF hH hz hl
  exact lv_lload_n hF.1 hF.2.1 hd rfl (lvR_at hl hL) (q p e s m args below meth c H locs ls hF hH hz hl)
theorem v_lload {k : Nat} {x : Int64} (hd : decode mt.2.1 pc = .ok (.lload k, 2)) (hL : L[k]? = some (some (.long x))) (q : V X mt R Z A (pc + 2) L (.long x :: st) h) : V X mt R Z A pc L (st) h := by
  intro p e s m args below meth c H locs ls hF hH hz hl
  exact lv_lload hF.1 hF.2.1 hd (lvR_at hl hL) (q p e s m args below meth c H locs ls hF hH hz hl)
theorem v_aload_n {k : Fin 4} {x : Nat} (hd : decode mt.2.1 pc = .ok (.aload_n k, 1)) (hL : L[(k : Nat)]? = some (some (.ref x))) (q : V X mt R Z A (pc + 1) L (.ref x :: st) h) : V X mt R Z A pc L (st) h := by
  intro p e s m args below meth c H locs ls hF hH hz hl
  exact lv_aload_n hF.1 hF.2.1 hd rfl (lvR_at hl hL) (q p e s m args below meth c H locs ls hF hH hz hl)
theorem v_aload {k : Nat} {x : Nat} (hd : decode mt.2.1 pc = .ok (.aload k, 2)) (hL : L[k]? = some (some (.ref x))) (q : V X mt R Z A (pc + 2) L (.ref x :: st) h) : V X mt R Z A pc L (st) h := by
  intro p e s m args below meth c H locs ls hF hH hz hl
  exact lv_aload hF.1 hF.2.1 hd (lvR_at hl hL) (q p e s m args below meth c H locs ls hF hH hz hl)
theorem v_iadd {x y : Int32} (hd : decode mt.2.1 pc = .ok (.iadd, 1)) (q : V X mt R Z A (pc + 1) L (.int (x + y) :: st) h) : V X mt R Z A pc L (.int y :: .int x :: st) h := by
  intro p e s m args below meth c H locs ls hF hH hz hl
  exact lv_iadd hF.1 hF.2.1 hd (q p e s m args below meth c H locs ls hF hH hz hl)
theorem v_isub {x y : Int32} (hd : decode mt.2.1 pc = .ok (.isub, 1)) (q : V X mt R Z A (pc + 1) L (.int (x - y) :: st) h) : V X mt R Z A pc L (.int y :: .int x :: st) h := by
  intro p e s m args below meth c H locs ls hF hH hz hl
  exact lv_isub hF.1 hF.2.1 hd (q p e s m args below meth c H locs ls hF hH hz hl)
theorem v_imul {x y : Int32} (hd : decode mt.2.1 pc = .ok (.imul, 1)) (q : V X mt R Z A (pc + 1) L (.int (x * y) :: st) h) : V X mt R Z A pc L (.int y :: .int x :: st) h := by
  intro p e s m args below meth c H locs ls hF hH hz hl
  exact lv_imul hF.1 hF.2.1 hd (q p e s m args below meth c H locs ls hF hH hz hl)
theorem v_iand {x y : Int32} (hd : decode mt.2.1 pc = .ok (.iand, 1)) (q : V X mt R Z A (pc + 1) L (.int (x &&& y) :: st) h) : V X mt R Z A pc L (.int y :: .int x :: st) h := by
  intro p e s m args below meth c H locs ls hF hH hz hl
  exact lv_iand hF.1 hF.2.1 hd (q p e s m args below meth c H locs ls hF hH hz hl)
theorem v_ior {x y : Int32} (hd : decode mt.2.1 pc = .ok (.ior, 1)) (q : V X mt R Z A (pc + 1) L (.int (x ||| y) :: st) h) : V X mt R Z A pc L (.int y :: .int x :: st) h := by
  intro p e s m args below meth c H locs ls hF hH hz hl
  exact lv_ior hF.1 hF.2.1 hd (q p e s m args below meth c H locs ls hF hH hz hl)
theorem v_ixor {x y : Int32} (hd : decode mt.2.1 pc = .ok (.ixor, 1)) (q : V X mt R Z A (pc + 1) L (.int (x ^^^ y) :: st) h) : V X mt R Z A pc L (.int y :: .int x :: st) h := by
  intro p e s m args below meth c H locs ls hF hH hz hl
  exact lv_ixor hF.1 hF.2.1 hd (q p e s m args below meth c H locs ls hF hH hz hl)
theorem v_ishl {x y : Int32} (hd : decode mt.2.1 pc = .ok (.ishl, 1)) (q : V X mt R Z A (pc + 1) L (.int (x <<< (y &&& 31)) :: st) h) : V X mt R Z A pc L (.int y :: .int x :: st) h := by
  intro p e s m args below meth c H locs ls hF hH hz hl
  exact lv_ishl hF.1 hF.2.1 hd (q p e s m args below meth c H locs ls hF hH hz hl)
theorem v_ishr {x y : Int32} (hd : decode mt.2.1 pc = .ok (.ishr, 1)) (q : V X mt R Z A (pc + 1) L (.int (x >>> (y &&& 31)) :: st) h) : V X mt R Z A pc L (.int y :: .int x :: st) h := by
  intro p e s m args below meth c H locs ls hF hH hz hl
  exact lv_ishr hF.1 hF.2.1 hd (q p e s m args below meth c H locs ls hF hH hz hl)
theorem v_ladd {x y : Int64} (hd : decode mt.2.1 pc = .ok (.ladd, 1)) (q : V X mt R Z A (pc + 1) L (.long (x + y) :: st) h) : V X mt R Z A pc L (.long y :: .long x :: st) h := by
  intro p e s m args below meth c H locs ls hF hH hz hl
  exact lv_ladd hF.1 hF.2.1 hd (q p e s m args below meth c H locs ls hF hH hz hl)
theorem v_lsub {x y : Int64} (hd : decode mt.2.1 pc = .ok (.lsub, 1)) (q : V X mt R Z A (pc + 1) L (.long (x - y) :: st) h) : V X mt R Z A pc L (.long y :: .long x :: st) h := by
  intro p e s m args below meth c H locs ls hF hH hz hl
  exact lv_lsub hF.1 hF.2.1 hd (q p e s m args below meth c H locs ls hF hH hz hl)
theorem v_lmul {x y : Int64} (hd : decode mt.2.1 pc = .ok (.lmul, 1)) (q : V X mt R Z A (pc + 1) L (.long (x * y) :: st) h) : V X mt R Z A pc L (.long y :: .long x :: st) h := by
  intro p e s m args below meth c H locs ls hF hH hz hl
  exact lv_lmul hF.1 hF.2.1 hd (q p e s m args below meth c H locs ls hF hH hz hl)
theorem v_land {x y : Int64} (hd : decode mt.2.1 pc = .ok (.land, 1)) (q : V X mt R Z A (pc + 1) L (.long (x &&& y) :: st) h) : V X mt R Z A pc L (.long y :: .long x :: st) h := by
  intro p e s m args below meth c H locs ls hF hH hz hl
  exact lv_land hF.1 hF.2.1 hd (q p e s m args below meth c H locs ls hF hH hz hl)
theorem v_lor {x y : Int64} (hd : decode mt.2.1 pc = .ok (.lor, 1)) (q : V X mt R Z A (pc + 1) L (.long (x ||| y) :: st) h) : V X mt R Z A pc L (.long y :: .long x :: st) h := by
  intro p e s m args below meth c H locs ls hF hH hz hl
  exact lv_lor hF.1 hF.2.1 hd (q p e s m args below meth c H locs ls hF hH hz hl)
theorem v_lxor {x y : Int64} (hd : decode mt.2.1 pc = .ok (.lxor, 1)) (q : V X mt R Z A (pc + 1) L (.long (x ^^^ y) :: st) h) : V X mt R Z A pc L (.long y :: .long x :: st) h := by
  intro p e s m args below meth c H locs ls hF hH hz hl
  exact lv_lxor hF.1 hF.2.1 hd (q p e s m args below meth c H locs ls hF hH hz hl)
theorem v_ineg {x : Int32} (hd : decode mt.2.1 pc = .ok (.ineg, 1)) (q : V X mt R Z A (pc + 1) L (.int (-x) :: st) h) : V X mt R Z A pc L (.int x :: st) h := by
  intro p e s m args below meth c H locs ls hF hH hz hl
  exact lv_ineg hF.1 hF.2.1 hd (q p e s m args below meth c H locs ls hF hH hz hl)
theorem v_idiv {x y : Int32} (hd : decode mt.2.1 pc = .ok (.idiv, 1)) (hy : ¬ y = 0) (q : V X mt R Z A (pc + 1) L (.int (x / y) :: st) h) : V X mt R Z A pc L (.int y :: .int x :: st) h := by
  intro p e s m args below meth c H locs ls hF hH hz hl
  exact lv_idiv hF.1 hF.2.1 hd hy (q p e s m args below meth c H locs ls hF hH hz hl)
theorem v_irem {x y : Int32} (hd : decode mt.2.1 pc = .ok (.irem, 1)) (hy : ¬ y = 0) (q : V X mt R Z A (pc + 1) L (.int (x - x / y * y) :: st) h) : V X mt R Z A pc L (.int y :: .int x :: st) h := by
  intro p e s m args below meth c H locs ls hF hH hz hl
  exact lv_irem hF.1 hF.2.1 hd hy (q p e s m args below meth c H locs ls hF hH hz hl)
theorem v_ldiv {x y : Int64} (hd : decode mt.2.1 pc = .ok (.ldiv, 1)) (hy : ¬ y = 0) (q : V X mt R Z A (pc + 1) L (.long (x / y) :: st) h) : V X mt R Z A pc L (.long y :: .long x :: st) h := by
  intro p e s m args below meth c H locs ls hF hH hz hl
  exact lv_ldiv hF.1 hF.2.1 hd hy (q p e s m args below meth c H locs ls hF hH hz hl)
theorem v_lrem {x y : Int64} (hd : decode mt.2.1 pc = .ok (.lrem, 1)) (hy : ¬ y = 0) (q : V X mt R Z A (pc + 1) L (.long (x - x / y * y) :: st) h) : V X mt R Z A pc L (.long y :: .long x :: st) h := by
  intro p e s m args below meth c H locs ls hF hH hz hl
  exact lv_lrem hF.1 hF.2.1 hd hy (q p e s m args below meth c H locs ls hF hH hz hl)
theorem v_iushr {x y : Int32} (hd : decode mt.2.1 pc = .ok (.iushr, 1)) (q : V X mt R Z A (pc + 1) L (.int ((x.toUInt32 >>> (y.toUInt32 &&& Int32.toUInt32 31)).toInt32) :: st) h) : V X mt R Z A pc L (.int y :: .int x :: st) h := by
  intro p e s m args below meth c H locs ls hF hH hz hl
  exact lv_iushr hF.1 hF.2.1 hd rfl (q p e s m args below meth c H locs ls hF hH hz hl)
theorem v_lushr {x : Int64} {y : Int32} (hd : decode mt.2.1 pc = .ok (.lushr, 1)) (q : V X mt R Z A (pc + 1) L (.long ((x.toUInt64 >>> (y.toInt64.toUInt64 &&& Int64.toUInt64 63)).toInt64) :: st) h) : V X mt R Z A pc L (.int y :: .long x :: st) h := by
  intro p e s m args below meth c H locs ls hF hH hz hl
  exact lv_lushr hF.1 hF.2.1 hd rfl (q p e s m args below meth c H locs ls hF hH hz hl)
theorem v_lshl {x : Int64} {y : Int32} (hd : decode mt.2.1 pc = .ok (.lshl, 1)) (q : V X mt R Z A (pc + 1) L (.long (x <<< (y.toInt64 &&& 63)) :: st) h) : V X mt R Z A pc L (.int y :: .long x :: st) h := by
  intro p e s m args below meth c H locs ls hF hH hz hl
  exact lv_lshl hF.1 hF.2.1 hd rfl (q p e s m args below meth c H locs ls hF hH hz hl)
theorem v_i2l {x : Int32} (hd : decode mt.2.1 pc = .ok (.i2l, 1)) (q : V X mt R Z A (pc + 1) L (.long x.toInt64 :: st) h) : V X mt R Z A pc L (.int x :: st) h := by
  intro p e s m args below meth c H locs ls hF hH hz hl
  exact lv_i2l hF.1 hF.2.1 hd rfl (q p e s m args below meth c H locs ls hF hH hz hl)
theorem v_l2i {x : Int64} (hd : decode mt.2.1 pc = .ok (.l2i, 1)) (q : V X mt R Z A (pc + 1) L (.int x.toInt32 :: st) h) : V X mt R Z A pc L (.long x :: st) h := by
  intro p e s m args below meth c H locs ls hF hH hz hl
  exact lv_l2i hF.1 hF.2.1 hd rfl (q p e s m args below meth c H locs ls hF hH hz hl)
theorem v_i2b {x : Int32} (hd : decode mt.2.1 pc = .ok (.i2b, 1)) (q : V X mt R Z A (pc + 1) L (.int x.toInt8.toInt32 :: st) h) : V X mt R Z A pc L (.int x :: st) h := by
  intro p e s m args below meth c H locs ls hF hH hz hl
  exact lv_i2b hF.1 hF.2.1 hd rfl (q p e s m args below meth c H locs ls hF hH hz hl)
theorem v_i2c {x : Int32} (hd : decode mt.2.1 pc = .ok (.i2c, 1)) (q : V X mt R Z A (pc + 1) L (.int (x.toUInt32 % 65536).toInt32 :: st) h) : V X mt R Z A pc L (.int x :: st) h := by
  intro p e s m args below meth c H locs ls hF hH hz hl
  exact lv_i2c hF.1 hF.2.1 hd rfl (q p e s m args below meth c H locs ls hF hH hz hl)
theorem v_lcmp {x y : Int64} (hd : decode mt.2.1 pc = .ok (.lcmp, 1)) (q : V X mt R Z A (pc + 1) L (.int (lg_cmp x y) :: st) h) : V X mt R Z A pc L (.long y :: .long x :: st) h := by
  intro p e s m args below meth c H locs ls hF hH hz hl
  exact W.lcmp hF.1 hF.2.1 hd (q p e s m args below meth c H locs ls hF hH hz hl)
theorem v_dup {va : Value} (hd : decode mt.2.1 pc = .ok (.dup, 1)) (ha : va.category = 1) (q : V X mt R Z A (pc + 1) L (va :: va :: st) h) : V X mt R Z A pc L (va :: st) h := by
  intro p e s m args below meth c H locs ls hF hH hz hl
  exact lv_dup hF.1 hF.2.1 hd (tr_cat.trans ha) (q p e s m args below meth c H locs ls hF hH hz hl)
theorem v_pop {va : Value} (hd : decode mt.2.1 pc = .ok (.pop, 1)) (ha : va.category = 1) (q : V X mt R Z A (pc + 1) L (st) h) : V X mt R Z A pc L (va :: st) h := by
  intro p e s m args below meth c H locs ls hF hH hz hl
  exact lv_pop hF.1 hF.2.1 hd (tr_cat.trans ha) (q p e s m args below meth c H locs ls hF hH hz hl)
theorem v_dup_x1 {va vb : Value} (hd : decode mt.2.1 pc = .ok (.dup_x1, 1)) (ha : va.category = 1) (hb : vb.category = 1) (q : V X mt R Z A (pc + 1) L (va :: vb :: va :: st) h) : V X mt R Z A pc L (va :: vb :: st) h := by
  intro p e s m args below meth c H locs ls hF hH hz hl
  exact lv_dup_x1 hF.1 hF.2.1 hd (tr_cat.trans ha) (tr_cat.trans hb) (q p e s m args below meth c H locs ls hF hH hz hl)
theorem v_dup2 {va vb : Value} (hd : decode mt.2.1 pc = .ok (.dup2, 1)) (ha : va.category = 1) (hb : vb.category = 1) (q : V X mt R Z A (pc + 1) L (va :: vb :: va :: vb :: st) h) : V X mt R Z A pc L (va :: vb :: st) h := by
  intro p e s m args below meth c H locs ls hF hH hz hl
  exact lv_dup2_11 hF.1 hF.2.1 hd (tr_cat.trans ha) (tr_cat.trans hb) (q p e s m args below meth c H locs ls hF hH hz hl)
theorem v_dup22 {va : Value} (hd : decode mt.2.1 pc = .ok (.dup2, 1)) (ha : va.category = 2) (q : V X mt R Z A (pc + 1) L (va :: va :: st) h) : V X mt R Z A pc L (va :: st) h := by
  intro p e s m args below meth c H locs ls hF hH hz hl
  exact lv_dup2_2 hF.1 hF.2.1 hd (tr_cat.trans ha) (q p e s m args below meth c H locs ls hF hH hz hl)
theorem v_ldc {i : Nat} {x : Int32} (hd : decode mt.2.1 pc = .ok (.ldc i, 2)) (hk : Cond.constant mt.1.cls i x ∈ BIG) (q : V X mt R Z A (pc + 2) L (.int x :: st) h) : V X mt R Z A pc L (st) h := by
  intro p e s m args below meth c H locs ls hF hH hz hl
  exact lv_ldc hF.1 hF.2.1 hF.2.2.2.2.2.1 (hF.2.2.2.2.2.2.2.1 _ hk) hd (q p e s m args below meth c H locs ls hF hH hz hl)
theorem v_ldc_w {i : Nat} {x : Int32} (hd : decode mt.2.1 pc = .ok (.ldc_w i, 3)) (hk : Cond.constant mt.1.cls i x ∈ BIG) (q : V X mt R Z A (pc + 3) L (.int x :: st) h) : V X mt R Z A pc L (st) h := by
  intro p e s m args below meth c H locs ls hF hH hz hl
  exact lv_ldcw hF.1 hF.2.1 hF.2.2.2.2.2.1 (hF.2.2.2.2.2.2.2.1 _ hk) hd (q p e s m args below meth c H locs ls hF hH hz hl)
theorem v_ldc2 {i : Nat} {x : Int64} (hd : decode mt.2.1 pc = .ok (.ldc2_w i, 3)) (hk : Cond.constantLong mt.1.cls i x ∈ BIG) (q : V X mt R Z A (pc + 3) L (.long x :: st) h) : V X mt R Z A pc L (st) h := by
  intro p e s m args below meth c H locs ls hF hH hz hl
  exact lv_ldc2 hF.1 hF.2.1 hF.2.2.2.2.2.1 (hF.2.2.2.2.2.2.2.1 _ hk) hd (q p e s m args below meth c H locs ls hF hH hz hl)
theorem v_if_eq {x : Int32} {off : Int} {tgt : Nat} (hd : decode mt.2.1 pc = .ok (.ifCond .eq off, 3)) (ht : (pc : Int) + off = (tgt : Int)) (qt : x = 0 → V X mt R Z A tgt L st h) (qf : ¬ x = 0 → V X mt R Z A (pc + 3) L st h) : V X mt R Z A pc L (.int x :: st) h := by
  intro p e s m args below meth c H locs ls hF hH hz hl
  exact lv_if_eq hF.1 hF.2.1 hd ht (fun hc => qt hc p e s m args below meth c H locs ls hF hH hz hl) (fun hc => qf hc p e s m args below meth c H locs ls hF hH hz hl)
theorem v_icmp_eq {x y : Int32} {off : Int} {tgt : Nat} (hd : decode mt.2.1 pc = .ok (.if_icmp .eq off, 3)) (ht : (pc : Int) + off = (tgt : Int)) (qt : x = y → V X mt R Z A tgt L st h) (qf : ¬ x = y → V X mt R Z A (pc + 3) L st h) : V X mt R Z A pc L (.int y :: .int x :: st) h := by
  intro p e s m args below meth c H locs ls hF hH hz hl
  exact lv_icmp_eq hF.1 hF.2.1 hd ht (fun hc => qt hc p e s m args below meth c H locs ls hF hH hz hl) (fun hc => qf hc p e s m args below meth c H locs ls hF hH hz hl)
theorem v_if_ne {x : Int32} {off : Int} {tgt : Nat} (hd : decode mt.2.1 pc = .ok (.ifCond .ne off, 3)) (ht : (pc : Int) + off = (tgt : Int)) (qt : ¬ x = 0 → V X mt R Z A tgt L st h) (qf : x = 0 → V X mt R Z A (pc + 3) L st h) : V X mt R Z A pc L (.int x :: st) h := by
  intro p e s m args below meth c H locs ls hF hH hz hl
  exact lv_if_ne hF.1 hF.2.1 hd ht (fun hc => qt hc p e s m args below meth c H locs ls hF hH hz hl) (fun hc => qf hc p e s m args below meth c H locs ls hF hH hz hl)
theorem v_icmp_ne {x y : Int32} {off : Int} {tgt : Nat} (hd : decode mt.2.1 pc = .ok (.if_icmp .ne off, 3)) (ht : (pc : Int) + off = (tgt : Int)) (qt : ¬ x = y → V X mt R Z A tgt L st h) (qf : x = y → V X mt R Z A (pc + 3) L st h) : V X mt R Z A pc L (.int y :: .int x :: st) h := by
  intro p e s m args below meth c H locs ls hF hH hz hl
  exact lv_icmp_ne hF.1 hF.2.1 hd ht (fun hc => qt hc p e s m args below meth c H locs ls hF hH hz hl) (fun hc => qf hc p e s m args below meth c H locs ls hF hH hz hl)
theorem v_if_lt {x : Int32} {off : Int} {tgt : Nat} (hd : decode mt.2.1 pc = .ok (.ifCond .lt off, 3)) (ht : (pc : Int) + off = (tgt : Int)) (qt : x < 0 → V X mt R Z A tgt L st h) (qf : ¬ x < 0 → V X mt R Z A (pc + 3) L st h) : V X mt R Z A pc L (.int x :: st) h := by
  intro p e s m args below meth c H locs ls hF hH hz hl
  exact lv_if_lt hF.1 hF.2.1 hd ht (fun hc => qt hc p e s m args below meth c H locs ls hF hH hz hl) (fun hc => qf hc p e s m args below meth c H locs ls hF hH hz hl)
theorem v_icmp_lt {x y : Int32} {off : Int} {tgt : Nat} (hd : decode mt.2.1 pc = .ok (.if_icmp .lt off, 3)) (ht : (pc : Int) + off = (tgt : Int)) (qt : x < y → V X mt R Z A tgt L st h) (qf : ¬ x < y → V X mt R Z A (pc + 3) L st h) : V X mt R Z A pc L (.int y :: .int x :: st) h := by
  intro p e s m args below meth c H locs ls hF hH hz hl
  exact lv_icmp_lt hF.1 hF.2.1 hd ht (fun hc => qt hc p e s m args below meth c H locs ls hF hH hz hl) (fun hc => qf hc p e s m args below meth c H locs ls hF hH hz hl)
theorem v_if_ge {x : Int32} {off : Int} {tgt : Nat} (hd : decode mt.2.1 pc = .ok (.ifCond .ge off, 3)) (ht : (pc : Int) + off = (tgt : Int)) (qt : 0 ≤ x → V X mt R Z A tgt L st h) (qf : ¬ 0 ≤ x → V X mt R Z A (pc + 3) L st h) : V X mt R Z A pc L (.int x :: st) h := by
  intro p e s m args below meth c H locs ls hF hH hz hl
  exact lv_if_ge hF.1 hF.2.1 hd ht (fun hc => qt hc p e s m args below meth c H locs ls hF hH hz hl) (fun hc => qf hc p e s m args below meth c H locs ls hF hH hz hl)
theorem v_icmp_ge {x y : Int32} {off : Int} {tgt : Nat} (hd : decode mt.2.1 pc = .ok (.if_icmp .ge off, 3)) (ht : (pc : Int) + off = (tgt : Int)) (qt : y ≤ x → V X mt R Z A tgt L st h) (qf : ¬ y ≤ x → V X mt R Z A (pc + 3) L st h) : V X mt R Z A pc L (.int y :: .int x :: st) h := by
  intro p e s m args below meth c H locs ls hF hH hz hl
  exact lv_icmp_ge hF.1 hF.2.1 hd ht (fun hc => qt hc p e s m args below meth c H locs ls hF hH hz hl) (fun hc => qf hc p e s m args below meth c H locs ls hF hH hz hl)
theorem v_if_gt {x : Int32} {off : Int} {tgt : Nat} (hd : decode mt.2.1 pc = .ok (.ifCond .gt off, 3)) (ht : (pc : Int) + off = (tgt : Int)) (qt : 0 < x → V X mt R Z A tgt L st h) (qf : ¬ 0 < x → V X mt R Z A (pc + 3) L st h) : V X mt R Z A pc L (.int x :: st) h := by
  intro p e s m args below meth c H locs ls hF hH hz hl
  exact lv_if_gt hF.1 hF.2.1 hd ht (fun hc => qt hc p e s m args below meth c H locs ls hF hH hz hl) (fun hc => qf hc p e s m args below meth c H locs ls hF hH hz hl)
theorem v_icmp_gt {x y : Int32} {off : Int} {tgt : Nat} (hd : decode mt.2.1 pc = .ok (.if_icmp .gt off, 3)) (ht : (pc : Int) + off = (tgt : Int)) (qt : y < x → V X mt R Z A tgt L st h) (qf : ¬ y < x → V X mt R Z A (pc + 3) L st h) : V X mt R Z A pc L (.int y :: .int x :: st) h := by
  intro p e s m args below meth c H locs ls hF hH hz hl
  exact lv_icmp_gt hF.1 hF.2.1 hd ht (fun hc => qt hc p e s m args below meth c H locs ls hF hH hz hl) (fun hc => qf hc p e s m args below meth c H locs ls hF hH hz hl)
theorem v_if_le {x : Int32} {off : Int} {tgt : Nat} (hd : decode mt.2.1 pc = .ok (.ifCond .le off, 3)) (ht : (pc : Int) + off = (tgt : Int)) (qt : x ≤ 0 → V X mt R Z A tgt L st h) (qf : ¬ x ≤ 0 → V X mt R Z A (pc + 3) L st h) : V X mt R Z A pc L (.int x :: st) h := by
  intro p e s m args below meth c H locs ls hF hH hz hl
  exact lv_if_le hF.1 hF.2.1 hd ht (fun hc => qt hc p e s m args below meth c H locs ls hF hH hz hl) (fun hc => qf hc p e s m args below meth c H locs ls hF hH hz hl)
theorem v_icmp_le {x y : Int32} {off : Int} {tgt : Nat} (hd : decode mt.2.1 pc = .ok (.if_icmp .le off, 3)) (ht : (pc : Int) + off = (tgt : Int)) (qt : x ≤ y → V X mt R Z A tgt L st h) (qf : ¬ x ≤ y → V X mt R Z A (pc + 3) L st h) : V X mt R Z A pc L (.int y :: .int x :: st) h := by
  intro p e s m args below meth c H locs ls hF hH hz hl
  exact lv_icmp_le hF.1 hF.2.1 hd ht (fun hc => qt hc p e s m args below meth c H locs ls hF hH hz hl) (fun hc => qf hc p e s m args below meth c H locs ls hF hH hz hl)
theorem v_goto {off : Int} {tgt : Nat} (hd : decode mt.2.1 pc = .ok (.goto off, 3)) (ht : (pc : Int) + off = (tgt : Int)) (q : V X mt R Z A tgt L st h) : V X mt R Z A pc L st h := by
  intro p e s m args below meth c H locs ls hF hH hz hl
  exact lv_goto hF.1 hF.2.1 hd ht (q p e s m args below meth c H locs ls hF hH hz hl)
theorem v_tableOut {dflt lo hi : Int} {offs : Array Int} {len : Nat} {x : Int32} {tgt : Nat} (hd : decode mt.2.1 pc = .ok (.tableswitch dflt lo hi offs, len)) (hx : x.toInt < lo ∨ hi < x.toInt) (ht : (pc : Int) + dflt = (tgt : Int)) (q : V X mt R Z A tgt L st h) : V X mt R Z A pc L (.int x :: st) h := by
  intro p e s m args below meth c H locs ls hF hH hz hl
  exact lv_tableOut hF.1 hF.2.1 hd hx ht (q p e s m args below meth c H locs ls hF hH hz hl)
theorem v_tableIn {dflt lo hi : Int} {offs : Array Int} {len : Nat} {x : Int32} {off : Int} {tgt : Nat} (hd : decode mt.2.1 pc = .ok (.tableswitch dflt lo hi offs, len)) (h1 : ¬ x.toInt < lo) (h2 : ¬ hi < x.toInt) (ho : offs[(x.toInt - lo).toNat]? = some off) (ht : (pc : Int) + off = (tgt : Int)) (q : V X mt R Z A tgt L st h) : V X mt R Z A pc L (.int x :: st) h := by
  intro p e s m args below meth c H locs ls hF hH hz hl
  exact lv_tableIn hF.1 hF.2.1 hd h1 h2 ho ht (q p e s m args below meth c H locs ls hF hH hz hl)
theorem v_istore_n {k : Fin 4} {x : Int32} (hd : decode mt.2.1 pc = .ok (.istore_n k, 1)) (hn : (k : Nat) < mt.2.2.1) {L' : List (Option Value)} (hL : sto (k : Nat) (.int x) L = L') (q : V X mt R Z A (pc + 1) L' st h) : V X mt R Z A pc L (.int x :: st) h := by
  intro p e s m args below meth c H locs ls hF hH hz hl
  subst hL
  exact lv_istore_n hF.1 hF.2.1 hd rfl hl hn rfl (fun ls' hl' => q p e s m args below meth c H locs ls' hF hH hz (lvR_sto1 (v := .int x) rfl hl'))
theorem v_istore {k : Nat} {x : Int32} (hd : decode mt.2.1 pc = .ok (.istore k, 2)) (hn : (k : Nat) < mt.2.2.1) {L' : List (Option Value)} (hL : sto (k : Nat) (.int x) L = L') (q : V X mt R Z A (pc + 2) L' st h) : V X mt R Z A pc L (.int x :: st) h := by
  intro p e s m args below meth c H locs ls hF hH hz hl
  subst hL
  exact lv_istore hF.1 hF.2.1 hd hl hn rfl (fun ls' hl' => q p e s m args below meth c H locs ls' hF hH hz (lvR_sto1 (v := .int x) rfl hl'))
theorem v_astore_n {k : Fin 4} {x : Nat} (hd : decode mt.2.1 pc = .ok (.astore_n k, 1)) (hn : (k : Nat) < mt.2.2.1) {L' : List (Option Value)} (hL : sto (k : Nat) (.ref x) L = L') (q : V X mt R Z A (pc + 1) L' st h) : V X mt R Z A pc L (.ref x :: st) h := by
  intro p e s m args below meth c H locs ls hF hH hz hl
  subst hL
  exact lv_astore_n hF.1 hF.2.1 hd rfl hl hn rfl (fun ls' hl' => q p e s m args below meth c H locs ls' hF hH hz (lvR_sto1 (v := .ref x) rfl hl'))
theorem v_astore {k : Nat} {x : Nat} (hd : decode mt.2.1 pc = .ok (.astore k, 2)) (hn : (k : Nat) < mt.2.2.1) {L' : List (Option Value)} (hL : sto (k : Nat) (.ref x) L = L') (q : V X mt R Z A (pc + 2) L' st h) : V X mt R Z A pc L (.ref x :: st) h := by
  intro p e s m args below meth c H locs ls hF hH hz hl
  subst hL
  exact lv_astore hF.1 hF.2.1 hd hl hn rfl (fun ls' hl' => q p e s m args below meth c H locs ls' hF hH hz (lvR_sto1 (v := .ref x) rfl hl'))
theorem v_lstore_n {k : Fin 4} {x : Int64} (hd : decode mt.2.1 pc = .ok (.lstore_n k, 1)) (hn : (k : Nat) + 1 < mt.2.2.1) {L' : List (Option Value)} (hL : sto (k : Nat) (.long x) L = L') (q : V X mt R Z A (pc + 1) L' st h) : V X mt R Z A pc L (.long x :: st) h := by
  intro p e s m args below meth c H locs ls hF hH hz hl
  subst hL
  exact lv_lstore_n hF.1 hF.2.1 hd rfl hl hn rfl (fun ls' hl' => q p e s m args below meth c H locs ls' hF hH hz (lvR_sto2 (v := .long x) rfl hl'))
theorem v_lstore {k : Nat} {x : Int64} (hd : decode mt.2.1 pc = .ok (.lstore k, 2)) (hn : (k : Nat) + 1 < mt.2.2.1) {L' : List (Option Value)} (hL : sto (k : Nat) (.long x) L = L') (q : V X mt R Z A (pc + 2) L' st h) : V X mt R Z A pc L (.long x :: st) h := by
  intro p e s m args below meth c H locs ls hF hH hz hl
  subst hL
  exact lv_lstore hF.1 hF.2.1 hd hl hn rfl (fun ls' hl' => q p e s m args below meth c H locs ls' hF hH hz (lvR_sto2 (v := .long x) rfl hl'))
theorem v_iinc {k : Nat} {n : Int} {x y : Int32} (hd : decode mt.2.1 pc = .ok (.iinc k n, 3)) (hx : L[k]? = some (some (.int x))) (hy : x + Int32.ofInt n = y) (hn : k < mt.2.2.1) {L' : List (Option Value)} (hL : sto k (.int y) L = L') (q : V X mt R Z A (pc + 3) L' st h) : V X mt R Z A pc L st h := by
  intro p e s m args below meth c H locs ls hF hH hz hl
  subst hL
  obtain ⟨i, hi⟩ := List.getElem?_of_mem ((lvl_in _ 0 k).mpr ⟨Nat.zero_le _, (by rw [Nat.sub_zero, List.getElem?_map, hx]; rfl : (L.map (Option.map (tr X)))[k - 0]? = some (some (.int x)))⟩)
  exact lv_iinc hF.1 hF.2.1 hd hl hi hy hn rfl (fun ls' hl' => q p e s m args below meth c H locs ls' hF hH hz (lvR_sto1 (v := .int y) rfl hl'))
end VR
