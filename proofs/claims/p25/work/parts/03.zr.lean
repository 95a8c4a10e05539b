/-! ZZ: the machine at pc, with the world bs, the locals ls and the stack st; ZC: what stays the same in a method; ZM: a method's contract -/
theorem z_words : wsL_law.all goodWord = true := by decide +kernel
theorem z_good {w : Cond} (h : w ∈ wsL_law) : (w.onTables && w.keeps) = true ∨ ∃ ty, w = .arrayClass ty := good_of_word (List.all_eq_true.mp z_words w h)
def z_nest : List Cond := [.fieldLinkNest "ReshapedTexts" 104 "ReshapedTexts$Editor" "written" "I" "ReshapedTexts", .fieldLinkNest "ReshapedTexts" 111 "ReshapedTexts$State" "writers" "LReshapedTexts$Numbers;" "ReshapedTexts", .fieldLinkNest "ReshapedTexts" 123 "ReshapedTexts$History" "size" "I" "ReshapedTexts", .fieldLinkNest "ReshapedTexts" 125 "ReshapedTexts$Commands" "signs" "LReshapedTexts$Numbers;" "ReshapedTexts", .fieldLinkNest "ReshapedTexts" 43 "ReshapedTexts$State" "log" "LReshapedTexts$Numbers;" "ReshapedTexts", .fieldLinkNest "ReshapedTexts" 67 "ReshapedTexts$State" "text" "LReshapedTexts$Numbers;" "ReshapedTexts", .fieldLinkNest "ReshapedTexts" 74 "ReshapedTexts$Editor" "copy" "LReshapedTexts$Numbers;" "ReshapedTexts", .fieldLinkNest "ReshapedTexts" 83 "ReshapedTexts$Editor" "waiting" "LReshapedTexts$Numbers;" "ReshapedTexts", .fieldLinkNest "ReshapedTexts" 86 "ReshapedTexts$Editor" "underWay" "Z" "ReshapedTexts", .fieldLinkNest "ReshapedTexts" 90 "ReshapedTexts$Editor" "heard" "I" "ReshapedTexts", .fieldLinkNest "ReshapedTexts" 94 "ReshapedTexts$Editor" "spot" "I" "ReshapedTexts", .fieldLinkNest "ReshapedTexts" 97 "ReshapedTexts$Editor" "backs" "LReshapedTexts$Numbers;" "ReshapedTexts", .fieldLinkNest "ReshapedTexts$State" 144 "ReshapedTexts$Editor" "underWay" "Z" "ReshapedTexts", .fieldLinkNest "ReshapedTexts$State" 84 "ReshapedTexts$Editor" "waiting" "LReshapedTexts$Numbers;" "ReshapedTexts", .fieldLinkNest "ReshapedTexts$State" 91 "ReshapedTexts$Editor" "copy" "LReshapedTexts$Numbers;" "ReshapedTexts", .methodLinkNest "ReshapedTexts$State" 39 ⟨"ReshapedTexts", "isNoEditor", "(I)Z"⟩ "ReshapedTexts"]
def z_nestOK (U : State) : Prop := ∀ w ∈ z_nest, va_Nw w U
theorem z_nest_on : z_nest.all (fun w => w.onTables) = true := by decide +kernel
theorem z_nestOK.same {u U : State} (h : u.vm = U.vm) (hZ : z_nestOK u) : z_nestOK U := fun w hw => va_Nw.same (List.all_eq_true.mp z_nest_on w hw) h (hZ w hw)
theorem z_nestOK.warm {s U : State} (hW : s.WarmedH U.vm) (hZ : z_nestOK s) : z_nestOK U := by
  intro w hw
  have h := hZ w hw
  simp only [z_nest, List.mem_cons, List.not_mem_nil, or_false] at hw
  rcases hw with rfl | rfl | rfl | rfl | rfl | rfl | rfl | rfl | rfl | rfl | rfl | rfl | rfl | rfl | rfl | rfl <;> first | exact va_Nw.warmF hW h | exact va_Nw.warmM hW h
abbrev z_tys (cI : ClassId) : List (ClassId × FieldType) := [(cI, .int)]
def ZC (p : Program) (s : State) (m : MethodId) (args : Array Value) (meth : Method) (c : Code) (own : String) (cc : ByteArray) (nL : Nat) (ret : Option FieldType) (D : va_G) (cI : ClassId) (A : Nat → Prop) : Prop :=
  CallFix p m c cc nL s args wsL_law own ∧ va_K D vwCl (z_tys cI) s ∧ z_nestOK s ∧ (∀ q : Nat, s.heap.size ≤ q → A q) ∧ meth.locks = false ∧ meth.sig.returnType = ret
def ZZ (p : Program) (l : Launch) (e : Env) (R : Room) (s : State) (m : MethodId) (args : Array Value) (below : List Frame) (meth : Method) (c : Code) (D : va_G) (A : Nat → Prop) (nL cells slots : Nat) (Qf : State → Prop) (bs : List va_W) (pc : Nat) (ls : List (Option Value)) (st : List Value) : Prop :=
  ∀ (H : Heap) (locs : List Loc) (la : Array Slot), va_P D vwCl bs.flatten H → va_D A bs.flatten → va_S A s.heap H locs → zL la nL ls → W p l e R s m args below meth c H locs cells slots Qf (F0 m pc la st)
def ZQ (D : va_G) (A : Nat → Prop) {S : Type} (rv : S → Option Value) (w1 : S → List va_W) (Q : S → Prop) : Array Value → State → Outcome → State → Prop := fun _ st o t => (∃ u : S, o = .returned (rv u) ∧ Q u ∧ va_P D vwCl (w1 u).flatten t.heap ∧ va_D A (w1 u).flatten) ∧ va_F A st t
def ZM {S : Type} (l : Launch) (D : va_G) (cI : ClassId) (y : MethodName) (cc : ByteArray) (nL : Nat) (ret : Option FieldType) (rm : Room) (av : List Value) (w0 : List va_W) (rv : S → Option Value) (w1 : S → List va_W) (Q : S → Prop) : Prop :=
  ∀ sz : Nat, Met l y (.code y cc nL ret :: wsL_law) rm (va_Pc av (fun U => U.heap.size = sz ∧ va_P D vwCl w0.flatten U.heap ∧ va_K D vwCl (z_tys cI) U ∧ z_nestOK U ∧ va_D (fun _ => True) w0.flatten)) (ZQ D (va_A w0.flatten sz) rv w1 Q) rm.cells rm.slots (va_A w0.flatten sz)
theorem z_vals {v : Value} {vs : List Value} (h : vs.all (fun v => v.category == 1) = true) : ∀ v ∈ vs, v.category = 1 := fun v hv => by simpa using List.all_eq_true.mp h v hv
/-- a method's contract, out of its walk -/
theorem z_body {S : Type} {l : Launch} {D : va_G} {cI : ClassId} {y : MethodName} {cc : ByteArray} {nL : Nat} {ret : Option FieldType} {rm : Room} {av : List Value} {w0 : List va_W} {rv : S → Option Value} {w1 : S → List va_W} {Q : S → Prop} (ls0 : List (Option Value))
    (hy : plainName y.cls = true) (hc : av.all (fun v => v.category == 1) = true) (hn : (lg_sl av).length ≤ nL) (hls : ls0 = av.map some ++ List.replicate (nL - av.length) none)
    (h : ∀ (p : Program) (e : Env) (s : State) (m : MethodId) (args : Array Value) (below : List Frame) (meth : Method) (c : Code) (A : Nat → Prop), ZC p s m args meth c y.cls cc nL ret D cI A → meth.name = y.name →
      ZZ p l e rm s m args below meth c D A nL 0 0 (MQ below (ZQ D A rv w1 Q) args s rm.cells rm.slots A) w0 0 ls0 []) : ZM l D cI y cc nL ret rm av w0 rv w1 Q := by
  intro sz
  refine Met.ofW (cc := cc) (maxL := nL) (ret := ret) hy rfl ?_
  intro p e s m args below meth c s₁ B hml hv
  obtain ⟨rfl, hsz, hP, hK, hN, hD0⟩ := hv
  subst hsz
  have hts := atoms_spec (ws := .code y cc nL ret :: wsL_law) B.pre
  have hown : s.vm.findClass y.cls = some m.cls := findClass_of_methodNamed B.named
  have hD := hD0.self (sz := s.heap.size)
  have hA : ∀ q : Nat, s.heap.size ≤ q → va_A w0.flatten s.heap.size q := fun q h => Or.inr h
  have hin := (name_of_methodNamed B.named B.method).1
  rw [lg_entry_eq]
  exact h p e s m _ below meth c _ ⟨⟨B.exec, B.bytes, hml, hown, fun w hw => hts w (List.mem_cons_of_mem _ hw)⟩, hK, hN, hA, B.notSynchronized, B.returns⟩ hin s.heap [] _ hP hD va_S.rf (zL.entry av (z_vals (v := .int 0) hc) hn ls0 hls)
section ZR
variable {p : Program} {l : Launch} {e : Env} {R : Room} {s : State} {m : MethodId} {args : Array Value} {below : List Frame} {meth : Method} {c : Code} {own : String} {cc : ByteArray} {nL : Nat} {ret : Option FieldType} {D : va_G} {cI : ClassId} {A : Nat → Prop} {cells slots : Nat} {Qf : State → Prop} {bs : List va_W} {pc : Nat} {ls : List (Option Value)} {st : List Value}

theorem z_iconst (C : ZC p s m args meth c own cc nL ret D cI A) {n : Int} (hdg : decode cc pc = .ok (.iconst n, 1)) (v : Int32) (hv : Int32.ofInt n = v) (kk : ZZ p l e R s m args below meth c D A nL cells slots Qf bs (pc + 1) ls (.int v :: st)) : ZZ p l e R s m args below meth c D A nL cells slots Qf bs pc ls st := by
  intro H locs la hP hD hS hl
  obtain ⟨⟨hx, hb, hml, hown, hts⟩, hK, hN, hA, hlk, hrt⟩ := C
  exact lv_iconst hx hb hdg hv (kk H locs la hP hD hS hl)
theorem z_bipush (C : ZC p s m args meth c own cc nL ret D cI A) {n : Int} (hdg : decode cc pc = .ok (.bipush n, 2)) (v : Int32) (hv : (Int8.ofInt n).toInt32 = v) (kk : ZZ p l e R s m args below meth c D A nL cells slots Qf bs (pc + 2) ls (.int v :: st)) : ZZ p l e R s m args below meth c D A nL cells slots Qf bs pc ls st := by
  intro H locs la hP hD hS hl
  obtain ⟨⟨hx, hb, hml, hown, hts⟩, hK, hN, hA, hlk, hrt⟩ := C
  exact lv_bipush hx hb hdg hv (kk H locs la hP hD hS hl)
theorem z_ldc (C : ZC p s m args meth c own cc nL ret D cI A) {index : Nat} (v : Int32) (hcst : Cond.constant own index v ∈ wsL_law) (hdg : decode cc pc = .ok (.ldc index, 2)) (kk : ZZ p l e R s m args below meth c D A nL cells slots Qf bs (pc + 2) ls (.int v :: st)) : ZZ p l e R s m args below meth c D A nL cells slots Qf bs pc ls st := by
  intro H locs la hP hD hS hl
  obtain ⟨⟨hx, hb, hml, hown, hts⟩, hK, hN, hA, hlk, hrt⟩ := C
  exact lv_ldc hx hb hown (hts _ hcst) hdg (kk H locs la hP hD hS hl)
theorem z_sipush (C : ZC p s m args meth c own cc nL ret D cI A) {n : Int} (hdg : decode cc pc = .ok (.sipush n, 3)) (v : Int32) (hv : (Int16.ofInt n).toInt32 = v) (kk : ZZ p l e R s m args below meth c D A nL cells slots Qf bs (pc + 3) ls (.int v :: st)) : ZZ p l e R s m args below meth c D A nL cells slots Qf bs pc ls st := by
  intro H locs la hP hD hS hl
  obtain ⟨⟨hx, hb, hml, hown, hts⟩, hK, hN, hA, hlk, hrt⟩ := C
  exact lv_sipush hx hb hdg hv (kk H locs la hP hD hS hl)
theorem z_iload_n (C : ZC p s m args meth c own cc nL ret D cI A) {k : Fin 4} (hdg : decode cc pc = .ok (.iload_n k, 1)) {x : Int32} (hl0 : ls[(k : Nat)]? = some (some (.int x))) (kk : ZZ p l e R s m args below meth c D A nL cells slots Qf bs (pc + 1) ls (.int x :: st)) : ZZ p l e R s m args below meth c D A nL cells slots Qf bs pc ls st := by
  intro H locs la hP hD hS hl
  obtain ⟨⟨hx, hb, hml, hown, hts⟩, hK, hN, hA, hlk, hrt⟩ := C
  exact lv_iload_n hx hb hdg rfl (hl.at hl0) (kk H locs la hP hD hS hl)
theorem z_iload (C : ZC p s m args meth c own cc nL ret D cI A) {i : Nat} (hdg : decode cc pc = .ok (.iload i, 2)) {x : Int32} (hl0 : ls[i]? = some (some (.int x))) (kk : ZZ p l e R s m args below meth c D A nL cells slots Qf bs (pc + 2) ls (.int x :: st)) : ZZ p l e R s m args below meth c D A nL cells slots Qf bs pc ls st := by
  intro H locs la hP hD hS hl
  obtain ⟨⟨hx, hb, hml, hown, hts⟩, hK, hN, hA, hlk, hrt⟩ := C
  exact lv_iload hx hb hdg (hl.at hl0) (kk H locs la hP hD hS hl)
theorem z_istore_n (C : ZC p s m args meth c own cc nL ret D cI A) {k : Fin 4} {x : Int32} (hdg : decode cc pc = .ok (.istore_n k, 1)) (ls1 : List (Option Value)) (hn : (k : Nat) < nL) (hls : ls.set (k : Nat) (some (.int x)) = ls1) (kk : ZZ p l e R s m args below meth c D A nL cells slots Qf bs (pc + 1) ls1 st) : ZZ p l e R s m args below meth c D A nL cells slots Qf bs pc ls (.int x :: st) := by
  intro H locs la hP hD hS hl
  obtain ⟨⟨hx, hb, hml, hown, hts⟩, hK, hN, hA, hlk, hrt⟩ := C
  subst hls
  exact lv_istore_n hx hb hdg rfl hl.1 hn rfl (fun la2 h2 => kk H locs la2 hP hD hS (hl.set h2 rfl))
theorem z_istore (C : ZC p s m args meth c own cc nL ret D cI A) {i : Nat} {x : Int32} (hdg : decode cc pc = .ok (.istore i, 2)) (ls1 : List (Option Value)) (hn : i < nL) (hls : ls.set i (some (.int x)) = ls1) (kk : ZZ p l e R s m args below meth c D A nL cells slots Qf bs (pc + 2) ls1 st) : ZZ p l e R s m args below meth c D A nL cells slots Qf bs pc ls (.int x :: st) := by
  intro H locs la hP hD hS hl
  obtain ⟨⟨hx, hb, hml, hown, hts⟩, hK, hN, hA, hlk, hrt⟩ := C
  subst hls
  exact lv_istore hx hb hdg hl.1 hn rfl (fun la2 h2 => kk H locs la2 hP hD hS (hl.set h2 rfl))
theorem z_aload_n (C : ZC p s m args meth c own cc nL ret D cI A) {k : Fin 4} (hdg : decode cc pc = .ok (.aload_n k, 1)) {x : Nat} (hl0 : ls[(k : Nat)]? = some (some (.ref x))) (kk : ZZ p l e R s m args below meth c D A nL cells slots Qf bs (pc + 1) ls (.ref x :: st)) : ZZ p l e R s m args below meth c D A nL cells slots Qf bs pc ls st := by
  intro H locs la hP hD hS hl
  obtain ⟨⟨hx, hb, hml, hown, hts⟩, hK, hN, hA, hlk, hrt⟩ := C
  exact lv_aload_n hx hb hdg rfl (hl.at hl0) (kk H locs la hP hD hS hl)
theorem z_aload (C : ZC p s m args meth c own cc nL ret D cI A) {i : Nat} (hdg : decode cc pc = .ok (.aload i, 2)) {x : Nat} (hl0 : ls[i]? = some (some (.ref x))) (kk : ZZ p l e R s m args below meth c D A nL cells slots Qf bs (pc + 2) ls (.ref x :: st)) : ZZ p l e R s m args below meth c D A nL cells slots Qf bs pc ls st := by
  intro H locs la hP hD hS hl
  obtain ⟨⟨hx, hb, hml, hown, hts⟩, hK, hN, hA, hlk, hrt⟩ := C
  exact lv_aload hx hb hdg (hl.at hl0) (kk H locs la hP hD hS hl)
theorem z_astore_n (C : ZC p s m args meth c own cc nL ret D cI A) {k : Fin 4} {x : Nat} (hdg : decode cc pc = .ok (.astore_n k, 1)) (ls1 : List (Option Value)) (hn : (k : Nat) < nL) (hls : ls.set (k : Nat) (some (.ref x)) = ls1) (kk : ZZ p l e R s m args below meth c D A nL cells slots Qf bs (pc + 1) ls1 st) : ZZ p l e R s m args below meth c D A nL cells slots Qf bs pc ls (.ref x :: st) := by
  intro H locs la hP hD hS hl
  obtain ⟨⟨hx, hb, hml, hown, hts⟩, hK, hN, hA, hlk, hrt⟩ := C
  subst hls
  exact lv_astore_n hx hb hdg rfl hl.1 hn rfl (fun la2 h2 => kk H locs la2 hP hD hS (hl.set h2 rfl))
theorem z_astore (C : ZC p s m args meth c own cc nL ret D cI A) {i : Nat} {x : Nat} (hdg : decode cc pc = .ok (.astore i, 2)) (ls1 : List (Option Value)) (hn : i < nL) (hls : ls.set i (some (.ref x)) = ls1) (kk : ZZ p l e R s m args below meth c D A nL cells slots Qf bs (pc + 2) ls1 st) : ZZ p l e R s m args below meth c D A nL cells slots Qf bs pc ls (.ref x :: st) := by
  intro H locs la hP hD hS hl
  obtain ⟨⟨hx, hb, hml, hown, hts⟩, hK, hN, hA, hlk, hrt⟩ := C
  subst hls
  exact lv_astore hx hb hdg hl.1 hn rfl (fun la2 h2 => kk H locs la2 hP hD hS (hl.set h2 rfl))
theorem z_iinc (C : ZC p s m args meth c own cc nL ret D cI A) {i : Nat} {n : Int} {x : Int32} (hdg : decode cc pc = .ok (.iinc i n, 3)) (hl0 : ls[i]? = some (some (.int x))) (v : Int32) (hv : x + Int32.ofInt n = v) (ls1 : List (Option Value)) (hn : i < nL) (hls : ls.set i (some (.int v)) = ls1) (kk : ZZ p l e R s m args below meth c D A nL cells slots Qf bs (pc + 3) ls1 st) : ZZ p l e R s m args below meth c D A nL cells slots Qf bs pc ls st := by
  intro H locs la hP hD hS hl
  obtain ⟨⟨hx, hb, hml, hown, hts⟩, hK, hN, hA, hlk, hrt⟩ := C
  subst hls
  obtain ⟨k, hk⟩ := List.getElem?_of_mem ((z_pairs_mem ls 0 (j := i) (w := .int x)).mpr ⟨Nat.zero_le _, by simpa using hl0⟩)
  exact lv_iinc hx hb hdg hl.1 hk hv hn rfl (fun la2 h2 => kk H locs la2 hP hD hS (hl.set h2 rfl))
theorem z_iadd (C : ZC p s m args meth c own cc nL ret D cI A) {x y : Int32} (hdg : decode cc pc = .ok (.iadd, 1)) (kk : ZZ p l e R s m args below meth c D A nL cells slots Qf bs (pc + 1) ls (.int (x + y) :: st)) : ZZ p l e R s m args below meth c D A nL cells slots Qf bs pc ls (.int y :: .int x :: st) := by
  intro H locs la hP hD hS hl
  obtain ⟨⟨hx, hb, hml, hown, hts⟩, hK, hN, hA, hlk, hrt⟩ := C
  exact lv_iadd hx hb hdg (kk H locs la hP hD hS hl)
theorem z_isub (C : ZC p s m args meth c own cc nL ret D cI A) {x y : Int32} (hdg : decode cc pc = .ok (.isub, 1)) (kk : ZZ p l e R s m args below meth c D A nL cells slots Qf bs (pc + 1) ls (.int (x - y) :: st)) : ZZ p l e R s m args below meth c D A nL cells slots Qf bs pc ls (.int y :: .int x :: st) := by
  intro H locs la hP hD hS hl
  obtain ⟨⟨hx, hb, hml, hown, hts⟩, hK, hN, hA, hlk, hrt⟩ := C
  exact lv_isub hx hb hdg (kk H locs la hP hD hS hl)
theorem z_imul (C : ZC p s m args meth c own cc nL ret D cI A) {x y : Int32} (hdg : decode cc pc = .ok (.imul, 1)) (kk : ZZ p l e R s m args below meth c D A nL cells slots Qf bs (pc + 1) ls (.int (x * y) :: st)) : ZZ p l e R s m args below meth c D A nL cells slots Qf bs pc ls (.int y :: .int x :: st) := by
  intro H locs la hP hD hS hl
  obtain ⟨⟨hx, hb, hml, hown, hts⟩, hK, hN, hA, hlk, hrt⟩ := C
  exact lv_imul hx hb hdg (kk H locs la hP hD hS hl)
theorem z_iand (C : ZC p s m args meth c own cc nL ret D cI A) {x y : Int32} (hdg : decode cc pc = .ok (.iand, 1)) (kk : ZZ p l e R s m args below meth c D A nL cells slots Qf bs (pc + 1) ls (.int (x &&& y) :: st)) : ZZ p l e R s m args below meth c D A nL cells slots Qf bs pc ls (.int y :: .int x :: st) := by
  intro H locs la hP hD hS hl
  obtain ⟨⟨hx, hb, hml, hown, hts⟩, hK, hN, hA, hlk, hrt⟩ := C
  exact lv_iand hx hb hdg (kk H locs la hP hD hS hl)
theorem z_ior (C : ZC p s m args meth c own cc nL ret D cI A) {x y : Int32} (hdg : decode cc pc = .ok (.ior, 1)) (kk : ZZ p l e R s m args below meth c D A nL cells slots Qf bs (pc + 1) ls (.int (x ||| y) :: st)) : ZZ p l e R s m args below meth c D A nL cells slots Qf bs pc ls (.int y :: .int x :: st) := by
  intro H locs la hP hD hS hl
  obtain ⟨⟨hx, hb, hml, hown, hts⟩, hK, hN, hA, hlk, hrt⟩ := C
  exact lv_ior hx hb hdg (kk H locs la hP hD hS hl)
theorem z_idiv (C : ZC p s m args meth c own cc nL ret D cI A) {x y : Int32} (hdg : decode cc pc = .ok (.idiv, 1)) (hne : ¬ y = 0) (kk : ZZ p l e R s m args below meth c D A nL cells slots Qf bs (pc + 1) ls (.int (x / y) :: st)) : ZZ p l e R s m args below meth c D A nL cells slots Qf bs pc ls (.int y :: .int x :: st) := by
  intro H locs la hP hD hS hl
  obtain ⟨⟨hx, hb, hml, hown, hts⟩, hK, hN, hA, hlk, hrt⟩ := C
  exact lv_idiv hx hb hdg hne (kk H locs la hP hD hS hl)
theorem z_irem (C : ZC p s m args meth c own cc nL ret D cI A) {x y : Int32} (hdg : decode cc pc = .ok (.irem, 1)) (hne : ¬ y = 0) (kk : ZZ p l e R s m args below meth c D A nL cells slots Qf bs (pc + 1) ls (.int ((x - x / y * y)) :: st)) : ZZ p l e R s m args below meth c D A nL cells slots Qf bs pc ls (.int y :: .int x :: st) := by
  intro H locs la hP hD hS hl
  obtain ⟨⟨hx, hb, hml, hown, hts⟩, hK, hN, hA, hlk, hrt⟩ := C
  exact lv_irem hx hb hdg hne (kk H locs la hP hD hS hl)
theorem z_ishl (C : ZC p s m args meth c own cc nL ret D cI A) {x y : Int32} (hdg : decode cc pc = .ok (.ishl, 1)) (kk : ZZ p l e R s m args below meth c D A nL cells slots Qf bs (pc + 1) ls (.int ((x <<< (y &&& 31))) :: st)) : ZZ p l e R s m args below meth c D A nL cells slots Qf bs pc ls (.int y :: .int x :: st) := by
  intro H locs la hP hD hS hl
  obtain ⟨⟨hx, hb, hml, hown, hts⟩, hK, hN, hA, hlk, hrt⟩ := C
  exact lv_ishl hx hb hdg (kk H locs la hP hD hS hl)
theorem z_ishr (C : ZC p s m args meth c own cc nL ret D cI A) {x y : Int32} (hdg : decode cc pc = .ok (.ishr, 1)) (kk : ZZ p l e R s m args below meth c D A nL cells slots Qf bs (pc + 1) ls (.int ((x >>> (y &&& 31))) :: st)) : ZZ p l e R s m args below meth c D A nL cells slots Qf bs pc ls (.int y :: .int x :: st) := by
  intro H locs la hP hD hS hl
  obtain ⟨⟨hx, hb, hml, hown, hts⟩, hK, hN, hA, hlk, hrt⟩ := C
  exact lv_ishr hx hb hdg (kk H locs la hP hD hS hl)
theorem z_dup (C : ZC p s m args meth c own cc nL ret D cI A) {va : Value} (hdg : decode cc pc = .ok (.dup, 1)) (hva : va.category = 1) (kk : ZZ p l e R s m args below meth c D A nL cells slots Qf bs (pc + 1) ls (va :: va :: st)) : ZZ p l e R s m args below meth c D A nL cells slots Qf bs pc ls (va :: st) := by
  intro H locs la hP hD hS hl
  obtain ⟨⟨hx, hb, hml, hown, hts⟩, hK, hN, hA, hlk, hrt⟩ := C
  exact lv_dup hx hb hdg hva (kk H locs la hP hD hS hl)
theorem z_dup2 (C : ZC p s m args meth c own cc nL ret D cI A) {va vb : Value} (hdg : decode cc pc = .ok (.dup2, 1)) (hva : va.category = 1) (hvb : vb.category = 1) (kk : ZZ p l e R s m args below meth c D A nL cells slots Qf bs (pc + 1) ls (va :: vb :: va :: vb :: st)) : ZZ p l e R s m args below meth c D A nL cells slots Qf bs pc ls (va :: vb :: st) := by
  intro H locs la hP hD hS hl
  obtain ⟨⟨hx, hb, hml, hown, hts⟩, hK, hN, hA, hlk, hrt⟩ := C
  exact lv_dup2_11 hx hb hdg hva hvb (kk H locs la hP hD hS hl)
theorem z_pop (C : ZC p s m args meth c own cc nL ret D cI A) {va : Value} (hdg : decode cc pc = .ok (.pop, 1)) (hva : va.category = 1) (kk : ZZ p l e R s m args below meth c D A nL cells slots Qf bs (pc + 1) ls st) : ZZ p l e R s m args below meth c D A nL cells slots Qf bs pc ls (va :: st) := by
  intro H locs la hP hD hS hl
  obtain ⟨⟨hx, hb, hml, hown, hts⟩, hK, hN, hA, hlk, hrt⟩ := C
  exact lv_pop hx hb hdg hva (kk H locs la hP hD hS hl)
theorem z_name (C : ZC p s m args meth c own cc nL ret D cI A) {x : Int32} (kk : ∀ y : Int32, y = x → ZZ p l e R s m args below meth c D A nL cells slots Qf bs pc ls (.int y :: st)) : ZZ p l e R s m args below meth c D A nL cells slots Qf bs pc ls (.int x :: st) := by
  intro H locs la hP hD hS hl
  obtain ⟨⟨hx, hb, hml, hown, hts⟩, hK, hN, hA, hlk, hrt⟩ := C
  exact kk x rfl H locs la hP hD hS hl
theorem z_icmp_eq (C : ZC p s m args meth c own cc nL ret D cI A) {x y : Int32} {off : Int} (hdg : decode cc pc = .ok (.if_icmp .eq off, 3)) (tgt : Nat) (ht : (pc : Int) + off = (tgt : Int)) (kt : x = y → ZZ p l e R s m args below meth c D A nL cells slots Qf bs tgt ls st) (kf : ¬ x = y → ZZ p l e R s m args below meth c D A nL cells slots Qf bs (pc + 3) ls st) : ZZ p l e R s m args below meth c D A nL cells slots Qf bs pc ls (.int y :: .int x :: st) := by
  intro H locs la hP hD hS hl
  obtain ⟨⟨hx, hb, hml, hown, hts⟩, hK, hN, hA, hlk, hrt⟩ := C
  exact lv_icmp_eq hx hb hdg ht (fun h => kt h H locs la hP hD hS hl) (fun h => kf h H locs la hP hD hS hl)
theorem z_if_eq (C : ZC p s m args meth c own cc nL ret D cI A) {x : Int32} {off : Int} (hdg : decode cc pc = .ok (.ifCond .eq off, 3)) (tgt : Nat) (ht : (pc : Int) + off = (tgt : Int)) (kt : x = 0 → ZZ p l e R s m args below meth c D A nL cells slots Qf bs tgt ls st) (kf : ¬ x = 0 → ZZ p l e R s m args below meth c D A nL cells slots Qf bs (pc + 3) ls st) : ZZ p l e R s m args below meth c D A nL cells slots Qf bs pc ls (.int x :: st) := by
  intro H locs la hP hD hS hl
  obtain ⟨⟨hx, hb, hml, hown, hts⟩, hK, hN, hA, hlk, hrt⟩ := C
  exact lv_if_eq hx hb hdg ht (fun h => kt h H locs la hP hD hS hl) (fun h => kf h H locs la hP hD hS hl)
theorem z_icmp_ne (C : ZC p s m args meth c own cc nL ret D cI A) {x y : Int32} {off : Int} (hdg : decode cc pc = .ok (.if_icmp .ne off, 3)) (tgt : Nat) (ht : (pc : Int) + off = (tgt : Int)) (kt : ¬ x = y → ZZ p l e R s m args below meth c D A nL cells slots Qf bs tgt ls st) (kf : x = y → ZZ p l e R s m args below meth c D A nL cells slots Qf bs (pc + 3) ls st) : ZZ p l e R s m args below meth c D A nL cells slots Qf bs pc ls (.int y :: .int x :: st) := by
  intro H locs la hP hD hS hl
  obtain ⟨⟨hx, hb, hml, hown, hts⟩, hK, hN, hA, hlk, hrt⟩ := C
  exact lv_icmp_ne hx hb hdg ht (fun h => kt h H locs la hP hD hS hl) (fun h => kf h H locs la hP hD hS hl)
theorem z_if_ne (C : ZC p s m args meth c own cc nL ret D cI A) {x : Int32} {off : Int} (hdg : decode cc pc = .ok (.ifCond .ne off, 3)) (tgt : Nat) (ht : (pc : Int) + off = (tgt : Int)) (kt : ¬ x = 0 → ZZ p l e R s m args below meth c D A nL cells slots Qf bs tgt ls st) (kf : x = 0 → ZZ p l e R s m args below meth c D A nL cells slots Qf bs (pc + 3) ls st) : ZZ p l e R s m args below meth c D A nL cells slots Qf bs pc ls (.int x :: st) := by
  intro H locs la hP hD hS hl
  obtain ⟨⟨hx, hb, hml, hown, hts⟩, hK, hN, hA, hlk, hrt⟩ := C
  exact lv_if_ne hx hb hdg ht (fun h => kt h H locs la hP hD hS hl) (fun h => kf h H locs la hP hD hS hl)
theorem z_icmp_lt (C : ZC p s m args meth c own cc nL ret D cI A) {x y : Int32} {off : Int} (hdg : decode cc pc = .ok (.if_icmp .lt off, 3)) (tgt : Nat) (ht : (pc : Int) + off = (tgt : Int)) (kt : x < y → ZZ p l e R s m args below meth c D A nL cells slots Qf bs tgt ls st) (kf : ¬ x < y → ZZ p l e R s m args below meth c D A nL cells slots Qf bs (pc + 3) ls st) : ZZ p l e R s m args below meth c D A nL cells slots Qf bs pc ls (.int y :: .int x :: st) := by
  intro H locs la hP hD hS hl
  obtain ⟨⟨hx, hb, hml, hown, hts⟩, hK, hN, hA, hlk, hrt⟩ := C
  exact lv_icmp_lt hx hb hdg ht (fun h => kt h H locs la hP hD hS hl) (fun h => kf h H locs la hP hD hS hl)
theorem z_if_lt (C : ZC p s m args meth c own cc nL ret D cI A) {x : Int32} {off : Int} (hdg : decode cc pc = .ok (.ifCond .lt off, 3)) (tgt : Nat) (ht : (pc : Int) + off = (tgt : Int)) (kt : x < 0 → ZZ p l e R s m args below meth c D A nL cells slots Qf bs tgt ls st) (kf : ¬ x < 0 → ZZ p l e R s m args below meth c D A nL cells slots Qf bs (pc + 3) ls st) : ZZ p l e R s m args below meth c D A nL cells slots Qf bs pc ls (.int x :: st) := by
  intro H locs la hP hD hS hl
  obtain ⟨⟨hx, hb, hml, hown, hts⟩, hK, hN, hA, hlk, hrt⟩ := C
  exact lv_if_lt hx hb hdg ht (fun h => kt h H locs la hP hD hS hl) (fun h => kf h H locs la hP hD hS hl)
theorem z_icmp_ge (C : ZC p s m args meth c own cc nL ret D cI A) {x y : Int32} {off : Int} (hdg : decode cc pc = .ok (.if_icmp .ge off, 3)) (tgt : Nat) (ht : (pc : Int) + off = (tgt : Int)) (kt : y ≤ x → ZZ p l e R s m args below meth c D A nL cells slots Qf bs tgt ls st) (kf : ¬ y ≤ x → ZZ p l e R s m args below meth c D A nL cells slots Qf bs (pc + 3) ls st) : ZZ p l e R s m args below meth c D A nL cells slots Qf bs pc ls (.int y :: .int x :: st) := by
  intro H locs la hP hD hS hl
  obtain ⟨⟨hx, hb, hml, hown, hts⟩, hK, hN, hA, hlk, hrt⟩ := C
  exact lv_icmp_ge hx hb hdg ht (fun h => kt h H locs la hP hD hS hl) (fun h => kf h H locs la hP hD hS hl)
theorem z_if_ge (C : ZC p s m args meth c own cc nL ret D cI A) {x : Int32} {off : Int} (hdg : decode cc pc = .ok (.ifCond .ge off, 3)) (tgt : Nat) (ht : (pc : Int) + off = (tgt : Int)) (kt : 0 ≤ x → ZZ p l e R s m args below meth c D A nL cells slots Qf bs tgt ls st) (kf : ¬ 0 ≤ x → ZZ p l e R s m args below meth c D A nL cells slots Qf bs (pc + 3) ls st) : ZZ p l e R s m args below meth c D A nL cells slots Qf bs pc ls (.int x :: st) := by
  intro H locs la hP hD hS hl
  obtain ⟨⟨hx, hb, hml, hown, hts⟩, hK, hN, hA, hlk, hrt⟩ := C
  exact lv_if_ge hx hb hdg ht (fun h => kt h H locs la hP hD hS hl) (fun h => kf h H locs la hP hD hS hl)
theorem z_icmp_gt (C : ZC p s m args meth c own cc nL ret D cI A) {x y : Int32} {off : Int} (hdg : decode cc pc = .ok (.if_icmp .gt off, 3)) (tgt : Nat) (ht : (pc : Int) + off = (tgt : Int)) (kt : y < x → ZZ p l e R s m args below meth c D A nL cells slots Qf bs tgt ls st) (kf : ¬ y < x → ZZ p l e R s m args below meth c D A nL cells slots Qf bs (pc + 3) ls st) : ZZ p l e R s m args below meth c D A nL cells slots Qf bs pc ls (.int y :: .int x :: st) := by
  intro H locs la hP hD hS hl
  obtain ⟨⟨hx, hb, hml, hown, hts⟩, hK, hN, hA, hlk, hrt⟩ := C
  exact lv_icmp_gt hx hb hdg ht (fun h => kt h H locs la hP hD hS hl) (fun h => kf h H locs la hP hD hS hl)
theorem z_if_gt (C : ZC p s m args meth c own cc nL ret D cI A) {x : Int32} {off : Int} (hdg : decode cc pc = .ok (.ifCond .gt off, 3)) (tgt : Nat) (ht : (pc : Int) + off = (tgt : Int)) (kt : 0 < x → ZZ p l e R s m args below meth c D A nL cells slots Qf bs tgt ls st) (kf : ¬ 0 < x → ZZ p l e R s m args below meth c D A nL cells slots Qf bs (pc + 3) ls st) : ZZ p l e R s m args below meth c D A nL cells slots Qf bs pc ls (.int x :: st) := by
  intro H locs la hP hD hS hl
  obtain ⟨⟨hx, hb, hml, hown, hts⟩, hK, hN, hA, hlk, hrt⟩ := C
  exact lv_if_gt hx hb hdg ht (fun h => kt h H locs la hP hD hS hl) (fun h => kf h H locs la hP hD hS hl)
theorem z_icmp_le (C : ZC p s m args meth c own cc nL ret D cI A) {x y : Int32} {off : Int} (hdg : decode cc pc = .ok (.if_icmp .le off, 3)) (tgt : Nat) (ht : (pc : Int) + off = (tgt : Int)) (kt : x ≤ y → ZZ p l e R s m args below meth c D A nL cells slots Qf bs tgt ls st) (kf : ¬ x ≤ y → ZZ p l e R s m args below meth c D A nL cells slots Qf bs (pc + 3) ls st) : ZZ p l e R s m args below meth c D A nL cells slots Qf bs pc ls (.int y :: .int x :: st) := by
  intro H locs la hP hD hS hl
  obtain ⟨⟨hx, hb, hml, hown, hts⟩, hK, hN, hA, hlk, hrt⟩ := C
  exact lv_icmp_le hx hb hdg ht (fun h => kt h H locs la hP hD hS hl) (fun h => kf h H locs la hP hD hS hl)
theorem z_if_le (C : ZC p s m args meth c own cc nL ret D cI A) {x : Int32} {off : Int} (hdg : decode cc pc = .ok (.ifCond .le off, 3)) (tgt : Nat) (ht : (pc : Int) + off = (tgt : Int)) (kt : x ≤ 0 → ZZ p l e R s m args below meth c D A nL cells slots Qf bs tgt ls st) (kf : ¬ x ≤ 0 → ZZ p l e R s m args below meth c D A nL cells slots Qf bs (pc + 3) ls st) : ZZ p l e R s m args below meth c D A nL cells slots Qf bs pc ls (.int x :: st) := by
  intro H locs la hP hD hS hl
  obtain ⟨⟨hx, hb, hml, hown, hts⟩, hK, hN, hA, hlk, hrt⟩ := C
  exact lv_if_le hx hb hdg ht (fun h => kt h H locs la hP hD hS hl) (fun h => kf h H locs la hP hD hS hl)
theorem z_goto (C : ZC p s m args meth c own cc nL ret D cI A) {off : Int} (hdg : decode cc pc = .ok (.goto off, 3)) (tgt : Nat) (ht : (pc : Int) + off = (tgt : Int)) (kk : ZZ p l e R s m args below meth c D A nL cells slots Qf bs tgt ls st) : ZZ p l e R s m args below meth c D A nL cells slots Qf bs pc ls st := by
  intro H locs la hP hD hS hl
  obtain ⟨⟨hx, hb, hml, hown, hts⟩, hK, hN, hA, hlk, hrt⟩ := C
  exact lv_goto hx hb hdg ht (kk H locs la hP hD hS hl)
theorem z_tableIn (C : ZC p s m args meth c own cc nL ret D cI A) {dflt lo hi : Int} {offs : Array Int} {len : Nat} {x : Int32} (hdg : decode cc pc = .ok (.tableswitch dflt lo hi offs, len)) (h1 : ¬ x.toInt < lo) (h2 : ¬ hi < x.toInt) (off : Int) (ho : offs[(x.toInt - lo).toNat]? = some off) (tgt : Nat) (ht : (pc : Int) + off = (tgt : Int)) (kk : ZZ p l e R s m args below meth c D A nL cells slots Qf bs tgt ls st) : ZZ p l e R s m args below meth c D A nL cells slots Qf bs pc ls (.int x :: st) := by
  intro H locs la hP hD hS hl
  obtain ⟨⟨hx, hb, hml, hown, hts⟩, hK, hN, hA, hlk, hrt⟩ := C
  exact lv_tableIn hx hb hdg h1 h2 ho ht (kk H locs la hP hD hS hl)
theorem z_tableOut (C : ZC p s m args meth c own cc nL ret D cI A) {dflt lo hi : Int} {offs : Array Int} {len : Nat} {x : Int32} (hdg : decode cc pc = .ok (.tableswitch dflt lo hi offs, len)) (h : x.toInt < lo ∨ hi < x.toInt) (tgt : Nat) (ht : (pc : Int) + dflt = (tgt : Int)) (kk : ZZ p l e R s m args below meth c D A nL cells slots Qf bs tgt ls st) : ZZ p l e R s m args below meth c D A nL cells slots Qf bs pc ls (.int x :: st) := by
  intro H locs la hP hD hS hl
  obtain ⟨⟨hx, hb, hml, hown, hts⟩, hK, hN, hA, hlk, hrt⟩ := C
  exact lv_tableOut hx hb hdg h ht (kk H locs la hP hD hS hl)
theorem z_lookup (C : ZC p s m args meth c own cc nL ret D cI A) {dflt : Int} {ps : Array (Int × Int)} {len : Nat} {x : Int32} (hdg : decode cc pc = .ok (.lookupswitch dflt ps, len)) (hp : (ps.toList.zip (ps.toList.drop 1)).all (fun (a, next) => a.1 < next.1) = true) (off : Int) (ho : Op.lookupswitch.offset ps.toList dflt x.toInt = off) (tgt : Nat) (ht : (pc : Int) + off = (tgt : Int)) (kk : ZZ p l e R s m args below meth c D A nL cells slots Qf bs tgt ls st) : ZZ p l e R s m args below meth c D A nL cells slots Qf bs pc ls (.int x :: st) := by
  intro H locs la hP hD hS hl
  obtain ⟨⟨hx, hb, hml, hown, hts⟩, hK, hN, hA, hlk, hrt⟩ := C
  exact lv_lookup hx hb hdg hp ho ht (kk H locs la hP hD hS hl)
theorem z_ls (C : ZC p s m args meth c own cc nL ret D cI A) (bk : List Bool) (ls1 : List (Option Value)) (hls : z_mask bk ls = ls1) (kk : ZZ p l e R s m args below meth c D A nL cells slots Qf bs pc ls1 st) : ZZ p l e R s m args below meth c D A nL cells slots Qf bs pc ls st := by
  intro H locs la hP hD hS hl
  obtain ⟨⟨hx, hb, hml, hown, hts⟩, hK, hN, hA, hlk, hrt⟩ := C
  subst hls
  exact kk H locs la hP hD hS (hl.sub (z_mask_sub bk ls))
theorem z_perm (C : ZC p s m args meth c own cc nL ret D cI A) (bs1 : List va_W) (hp : bs.Perm bs1) (kk : ZZ p l e R s m args below meth c D A nL cells slots Qf bs1 pc ls st) : ZZ p l e R s m args below meth c D A nL cells slots Qf bs pc ls st := by
  intro H locs la hP hD hS hl
  obtain ⟨⟨hx, hb, hml, hown, hts⟩, hK, hN, hA, hlk, hrt⟩ := C
  exact kk H locs la (z_Pp hp.flatten hP) (z_Dp hp.flatten hD) hS hl
theorem z_eq (C : ZC p s m args meth c own cc nL ret D cI A) (bs1 : List va_W) (hp : bs.flatten = bs1.flatten) (kk : ZZ p l e R s m args below meth c D A nL cells slots Qf bs1 pc ls st) : ZZ p l e R s m args below meth c D A nL cells slots Qf bs pc ls st := by
  intro H locs la hP hD hS hl
  obtain ⟨⟨hx, hb, hml, hown, hts⟩, hK, hN, hA, hlk, hrt⟩ := C
  exact kk H locs la (hp ▸ hP) (hp ▸ hD) hS hl
theorem z_get (C : ZC p s m args meth c own cc nL ret D cI A) {Cn : String} {T : u_T} {N ci index : Nat} (hin : ∀ w ∈ u_ws Cn T N, w ∈ wsL_law) (hc : vwCl[ci]? = some (Cn, T, N)) (k : Nat) (hk : k < N) (hw : Cond.fieldLink own index (T k).1 (T k).2.1 (T k).2.2.1 ∈ wsL_law) (hdg : decode cc pc = .ok (.getfield index, 3)) (bi qi : Nat) {w : va_W} (hbi : bs[bi]? = some w) {a : Nat} {fs : List Value} (hqi : w[qi]? = some (a, .inr (ci, fs))) {v : Value} (hv : fs[k]? = some v) (kk : ZZ p l e R s m args below meth c D A nL cells slots Qf bs (pc + 3) ls (v :: st)) : ZZ p l e R s m args below meth c D A nL cells slots Qf bs pc ls (.ref a :: st) := by
  intro H locs la hP hD hS hl
  obtain ⟨⟨hx, hb, hml, hown, hts⟩, hK, hN, hA, hlk, hrt⟩ := C
  obtain ⟨q0, h0, -⟩ := z_flat_set bs bi qi hbi hqi
  exact va_get hx hb hts hin hown hK hP q0 h0 hc k hk (hts _ hw) (fun _ h9 => h9) hv hdg (kk H locs la hP hD hS hl)
theorem z_getN (C : ZC p s m args meth c own cc nL ret D cI A) {Cn : String} {T : u_T} {N ci index : Nat} {host : String} (hin : ∀ w ∈ u_ws Cn T N, w ∈ wsL_law) (hc : vwCl[ci]? = some (Cn, T, N)) (k : Nat) (hk : k < N) (hw : Cond.fieldLinkNest own index (T k).1 (T k).2.1 (T k).2.2.1 host ∈ z_nest) (hdg : decode cc pc = .ok (.getfield index, 3)) (bi qi : Nat) {w : va_W} (hbi : bs[bi]? = some w) {a : Nat} {fs : List Value} (hqi : w[qi]? = some (a, .inr (ci, fs))) {v : Value} (hv : fs[k]? = some v) (kk : ZZ p l e R s m args below meth c D A nL cells slots Qf bs (pc + 3) ls (v :: st)) : ZZ p l e R s m args below meth c D A nL cells slots Qf bs pc ls (.ref a :: st) := by
  intro H locs la hP hD hS hl
  obtain ⟨⟨hx, hb, hml, hown, hts⟩, hK, hN, hA, hlk, hrt⟩ := C
  obtain ⟨q0, h0, -⟩ := z_flat_set bs bi qi hbi hqi
  exact va_getN hx hb hts hin hown hK hP q0 h0 hc k hk (va_Nw.use rfl (hN _ hw)) (fun _ h9 => h9) hv hdg (kk H locs la hP hD hS hl)
theorem z_put (C : ZC p s m args meth c own cc nL ret D cI A) {Cn : String} {T : u_T} {N ci index : Nat} (hin : ∀ w ∈ u_ws Cn T N, w ∈ wsL_law) (hc : vwCl[ci]? = some (Cn, T, N)) (ty0 : Nat → FieldType) (hty : ∀ k, k < N → parseFieldDescriptor (T k).2.2.1 = some (ty0 k)) (hnm : ∀ a, a < N → ∀ b, b < N → a ≠ b → (T a).2.1 ≠ (T b).2.1) (k : Nat) (hk : k < N) (hw : Cond.fieldLink own index (T k).1 (T k).2.1 (T k).2.2.1 ∈ wsL_law) (hfin : (T k).2.2.2 = false) {ty : FieldType} {v : Value} (hd : ty0 k = ty) (hn : narrow ty v = v) (hfit : fits ty v = true) (hdg : decode cc pc = .ok (.putfield index, 3)) (bi qi : Nat) {w : va_W} (hbi : bs[bi]? = some w) {a : Nat} {fs : List Value} (hqi : w[qi]? = some (a, .inr (ci, fs))) (hl0 : k < fs.length) (bs1 : List va_W) (hbs : bs.set bi (w.set qi (a, .inr (ci, fs.set k v))) = bs1) (kk : ZZ p l e R s m args below meth c D A nL cells slots Qf bs1 (pc + 3) ls st) : ZZ p l e R s m args below meth c D A nL cells slots Qf bs pc ls (v :: .ref a :: st) := by
  intro H locs la hP hD hS hl
  obtain ⟨⟨hx, hb, hml, hown, hts⟩, hK, hN, hA, hlk, hrt⟩ := C
  subst hbs
  obtain ⟨q0, h0, h1⟩ := z_flat_set bs bi qi hbi hqi
  refine va_put hx hb hts hin ty0 hty hnm hown hK hP hD hS q0 h0 hc k hk (hts _ hw) (fun _ h9 => h9) hfin (by rw [hty k hk, hd]) hn hfit hl0 hdg (fun H1 locs1 hP hD hS => ?_)
  rw [h1] at hP hD
  exact kk H1 locs1 la hP hD hS hl
theorem z_putF (C : ZC p s m args meth c own cc nL ret D cI A) {Cn : String} {T : u_T} {N ci index : Nat} (hin : ∀ w ∈ u_ws Cn T N, w ∈ wsL_law) (hc : vwCl[ci]? = some (Cn, T, N)) (ty0 : Nat → FieldType) (hty : ∀ k, k < N → parseFieldDescriptor (T k).2.2.1 = some (ty0 k)) (hnm : ∀ a, a < N → ∀ b, b < N → a ≠ b → (T a).2.1 ≠ (T b).2.1) (k : Nat) (hk : k < N) (hw : Cond.fieldLink own index (T k).1 (T k).2.1 (T k).2.2.1 ∈ wsL_law) (hfin : (T k).2.2.2 = true) (hin2 : meth.name = "<init>") (hdecl : (T k).1 = own) {ty : FieldType} {v : Value} (hd : ty0 k = ty) (hn : narrow ty v = v) (hfit : fits ty v = true) (hdg : decode cc pc = .ok (.putfield index, 3)) (bi qi : Nat) {w : va_W} (hbi : bs[bi]? = some w) {a : Nat} {fs : List Value} (hqi : w[qi]? = some (a, .inr (ci, fs))) (hl0 : k < fs.length) (bs1 : List va_W) (hbs : bs.set bi (w.set qi (a, .inr (ci, fs.set k v))) = bs1) (kk : ZZ p l e R s m args below meth c D A nL cells slots Qf bs1 (pc + 3) ls st) : ZZ p l e R s m args below meth c D A nL cells slots Qf bs pc ls (v :: .ref a :: st) := by
  intro H locs la hP hD hS hl
  obtain ⟨⟨hx, hb, hml, hown, hts⟩, hK, hN, hA, hlk, hrt⟩ := C
  subst hbs
  obtain ⟨q0, h0, h1⟩ := z_flat_set bs bi qi hbi hqi
  refine va_putF hx hb hts hin ty0 hty hnm hown hK hP hD hS q0 h0 hc k hk (hts _ hw) (fun _ h9 => h9) hfin hin2 hdecl (by rw [hty k hk, hd]) hn hfit hl0 hdg (fun H1 locs1 hP hD hS => ?_)
  rw [h1] at hP hD
  exact kk H1 locs1 la hP hD hS hl
theorem z_putN (C : ZC p s m args meth c own cc nL ret D cI A) {Cn : String} {T : u_T} {N ci index : Nat} {host : String} (hin : ∀ w ∈ u_ws Cn T N, w ∈ wsL_law) (hc : vwCl[ci]? = some (Cn, T, N)) (ty0 : Nat → FieldType) (hty : ∀ k, k < N → parseFieldDescriptor (T k).2.2.1 = some (ty0 k)) (hnm : ∀ a, a < N → ∀ b, b < N → a ≠ b → (T a).2.1 ≠ (T b).2.1) (k : Nat) (hk : k < N) (hw : Cond.fieldLinkNest own index (T k).1 (T k).2.1 (T k).2.2.1 host ∈ z_nest) (hfin : (T k).2.2.2 = false) {ty : FieldType} {v : Value} (hd : ty0 k = ty) (hn : narrow ty v = v) (hfit : fits ty v = true) (hdg : decode cc pc = .ok (.putfield index, 3)) (bi qi : Nat) {w : va_W} (hbi : bs[bi]? = some w) {a : Nat} {fs : List Value} (hqi : w[qi]? = some (a, .inr (ci, fs))) (hl0 : k < fs.length) (bs1 : List va_W) (hbs : bs.set bi (w.set qi (a, .inr (ci, fs.set k v))) = bs1) (kk : ZZ p l e R s m args below meth c D A nL cells slots Qf bs1 (pc + 3) ls st) : ZZ p l e R s m args below meth c D A nL cells slots Qf bs pc ls (v :: .ref a :: st) := by
  intro H locs la hP hD hS hl
  obtain ⟨⟨hx, hb, hml, hown, hts⟩, hK, hN, hA, hlk, hrt⟩ := C
  subst hbs
  obtain ⟨q0, h0, h1⟩ := z_flat_set bs bi qi hbi hqi
  refine va_putN hx hb hts hin ty0 hty hnm hown hK hP hD hS q0 h0 hc k hk (va_Nw.use rfl (hN _ hw)) (fun _ h9 => h9) hfin (by rw [hty k hk, hd]) hn hfit hl0 hdg (fun H1 locs1 hP hD hS => ?_)
  rw [h1] at hP hD
  exact kk H1 locs1 la hP hD hS hl
theorem z_alen (C : ZC p s m args meth c own cc nL ret D cI A) (hdg : decode cc pc = .ok (.arraylength, 1)) (bi qi : Nat) {w : va_W} (hbi : bs[bi]? = some w) {a : Nat} {x : vp_A} (hqi : w[qi]? = some (a, .inl (cI, x))) (v : Int32) (hv : nI x.1 = v) (kk : ZZ p l e R s m args below meth c D A nL cells slots Qf bs (pc + 1) ls (.int v :: st)) : ZZ p l e R s m args below meth c D A nL cells slots Qf bs pc ls (.ref a :: st) := by
  intro H locs la hP hD hS hl
  obtain ⟨⟨hx, hb, hml, hown, hts⟩, hK, hN, hA, hlk, hrt⟩ := C
  obtain ⟨q0, h0, -⟩ := z_flat_set bs bi qi hbi hqi
  exact va_alen hx hb hK hP q0 0 h0 rfl hv hdg (kk H locs la hP hD hS hl)
theorem z_iald (C : ZC p s m args meth c own cc nL ret D cI A) (hdg : decode cc pc = .ok (.iaload, 1)) (bi qi : Nat) {w : va_W} (hbi : bs[bi]? = some w) {a n : Nat} {f : Nat → Int32} (hqi : w[qi]? = some (a, .inl (cI, n, .inl f))) {i : Int32} (hi : vp_in i n) (kk : ZZ p l e R s m args below meth c D A nL cells slots Qf bs (pc + 1) ls (.int (f i.toNatClampNeg) :: st)) : ZZ p l e R s m args below meth c D A nL cells slots Qf bs pc ls (.int i :: .ref a :: st) := by
  intro H locs la hP hD hS hl
  obtain ⟨⟨hx, hb, hml, hown, hts⟩, hK, hN, hA, hlk, hrt⟩ := C
  obtain ⟨q0, h0, -⟩ := z_flat_set bs bi qi hbi hqi
  exact va_iald hx hb hK hP q0 0 h0 rfl hi hdg (kk H locs la hP hD hS hl)
theorem z_iast (C : ZC p s m args meth c own cc nL ret D cI A) (hdg : decode cc pc = .ok (.iastore, 1)) (bi qi : Nat) {w : va_W} (hbi : bs[bi]? = some w) {a n : Nat} {f : Nat → Int32} (hqi : w[qi]? = some (a, .inl (cI, n, .inl f))) {i x : Int32} (hi : vp_in i n) (bs1 : List va_W) (hbs : bs.set bi (w.set qi (a, .inl (cI, n, .inl (upd f i.toNatClampNeg x)))) = bs1) (kk : ZZ p l e R s m args below meth c D A nL cells slots Qf bs1 (pc + 1) ls st) : ZZ p l e R s m args below meth c D A nL cells slots Qf bs pc ls (.int x :: .int i :: .ref a :: st) := by
  intro H locs la hP hD hS hl
  obtain ⟨⟨hx, hb, hml, hown, hts⟩, hK, hN, hA, hlk, hrt⟩ := C
  subst hbs
  obtain ⟨q0, h0, h1⟩ := z_flat_set bs bi qi hbi hqi
  refine va_iast hx hb hK hP hD hS q0 0 h0 rfl hi hdg (fun H1 locs1 hP hD hS => ?_)
  rw [h1] at hP hD
  exact kk H1 locs1 la hP hD hS hl
end ZR
