/-! calls, returns, new objects, loops over ZZ -/
section ZCALL
variable {p : Program} {l : Launch} {e : Env} {R : Room} {s : State} {m : MethodId} {args : Array Value} {below : List Frame} {meth : Method} {c : Code} {own : String} {cc : ByteArray} {nL : Nat} {ret : Option FieldType} {D : va_G} {cI : ClassId} {A : Nat → Prop} {cells slots : Nat} {Qf : State → Prop} {bs : List va_W} {pc : Nat} {ls : List (Option Value)} {st : List Value}
theorem z_after {S : Type} {wc wr : List va_W} {w1 : S → List va_W} {rv : S → Option Value} {Q : S → Prop} {a : Array Value} {rest : List Value} {mc ms : Nat} {H : Heap} {locs : List Loc} {la : Array Slot}
    (hA : ∀ q : Nat, s.heap.size ≤ q → A q) (hp : bs.Perm (wc ++ wr)) (hP : va_P D vwCl bs.flatten H) (hD : va_D A bs.flatten) (hS : va_S A s.heap H locs) (hl : zL la nL ls)
    (hr : va_P D vwCl wc.flatten H → va_D A wc.flatten → va_Run p l e R s m args below meth c H locs cells slots mc ms (F0 m pc la st) rest (ZQ D (va_A wc.flatten H.size) rv w1 Q a) (va_A wc.flatten H.size))
    (kk : ∀ u : S, Q u → ZZ p l e R s m args below meth c D A nL (cells + mc) (slots + ms) Qf (w1 u ++ wr) (pc + 3) ls ((rv u).toList ++ rest)) : W p l e R s m args below meth c H locs cells slots Qf (F0 m pc la st) := by
  have hp2 : bs.flatten.Perm (wc.flatten ++ wr.flatten) := by rw [← List.flatten_append]; exact hp.flatten
  have hP2 := z_Pp hp2 hP
  have hD2 := z_Dp hp2 hD
  have hlt : ∀ q ∈ wr.flatten, q.1 < H.size := fun q hq => (z_P.mp hP2 q (List.mem_append_right _ hq)).lt
  have hF : ∀ q, va_A wc.flatten H.size q → A q := by
    intro q hq
    rcases z_Aiff.mp hq with h | h
    · obtain ⟨x, hx, rfl⟩ := List.mem_map.mp h
      exact (z_D.mp hD2).2 x (List.mem_append_left _ hx)
    · exact hA q (Nat.le_trans hS.1 h)
  intro T hT X
  obtain ⟨v, st₀, t, T', L, h0, X', hL, e1, e2, ⟨⟨u, hv, hq, hP1, hD1⟩, hz, hk⟩, stp⟩ := hr (z_Pl hP2) (z_Dl hD2) T hT X
  have hv2 : v = rv u := by injection hv
  subst hv2
  rw [h0] at hz hk
  rw [← e1] at hz hP1
  have hk2 : ∀ q : Nat, q < H.size → ¬ va_A wc.flatten H.size q → T'.heap[q]? = H[q]? := fun q h1 h2 => by rw [e1]; exact hk q h1 h2
  obtain ⟨hP3, hD3⟩ := z_join hP2 hD2 hlt hk2 hF hP1 hD1
  rw [← List.flatten_append] at hP3 hD3
  obtain ⟨t2, a1, b1⟩ := kk u hq T'.heap (locs ++ L) la hP3 hD3
    ⟨Nat.le_trans hS.1 hz, fun q h1 h2 => by rw [hk2 q (Nat.lt_of_lt_of_le h1 hS.1) (fun z => h2 (hF q z))]; exact hS.2.1 q h1 h2, fun q hq => by
      rcases List.mem_append.mp hq with h | h
      · exact hS.2.2 q h
      · exact hF _ (hL q h)⟩ hl T' rfl X'
  exact ⟨t2, stp t2 a1, b1⟩
theorem z_blind {D : va_G} {cI : ClassId} {av : List Value} {w0 : va_W} {sz : Nat} : FrameBlind (va_Pc av (fun U => U.heap.size = sz ∧ va_P D vwCl w0 U.heap ∧ va_K D vwCl (z_tys cI) U ∧ z_nestOK U ∧ va_D (fun _ => True) w0)) := by
  intro a U g mk q
  obtain ⟨q0, q1, qP, qK, qN, qD⟩ := q
  exact ⟨q0, q1, qP, va_K.moved (u := U) (U := U.calling g mk a) (Vm.Alike.refl U.vm) qK, z_nestOK.same (u := U) (U := U.calling g mk a) rfl qN, qD⟩
def zY (y : MethodName) (cc : ByteArray) (nL : Nat) (ret : Option FieldType) : Prop := Cond.code y cc nL ret ∈ wsL_law ∧ Cond.initialized y.cls ∈ wsL_law ∧ y.cls ≠ "java/lang/invoke/MethodHandle" ∧ y.cls ≠ "java/lang/invoke/VarHandle"
def zYV (y : MethodName) (cc : ByteArray) (nL : Nat) (ret : Option FieldType) : Prop := zY y cc nL ret ∧ Cond.instanceMethod y ∈ wsL_law ∧ Cond.selects y.cls y y ∈ wsL_law
def zYS (y : MethodName) (cc : ByteArray) (nL : Nat) (ret : Option FieldType) : Prop := zY y cc nL ret ∧ Cond.static y ∈ wsL_law
def zYI (y : MethodName) (cc : ByteArray) (nL : Nat) : Prop := zY y cc nL none ∧ Cond.instanceMethod y ∈ wsL_law ∧ y.name = "<init>"
theorem z_goodIn {y : MethodName} {cc : ByteArray} {nL : Nat} {ret : Option FieldType} (h : Cond.code y cc nL ret ∈ wsL_law) : GoodIn wsL_law (.code y cc nL ret :: wsL_law) := by
  intro w hw
  rcases List.mem_cons.mp hw with h1 | h1
  · subst h1; exact ⟨h, z_good h⟩
  · exact ⟨h1, z_good h1⟩
theorem z_callB {y : MethodName} {yc : ByteArray} {yL : Nat} {yr : Option FieldType} {rm : Room} {idx n : Nat} (hts : ∀ w ∈ wsL_law, w.before args s = true) (hy : zY y yc yL yr) (hlk : Cond.methodLink own idx y ∈ wsL_law) (hn : (parseMethodDescriptor y.desc).map (fun d => d.parameters.length) = some n) (hR : rm.frames + 1 ≤ R.frames ∧ 8 + (yL + 11) + rm.locals ≤ R.locals) :
    CallB R s args own idx y yc yL yr (.code y yc yL yr :: wsL_law) rm rm.cells rm.slots n :=
  callB_of n hts (z_goodIn hy.1) rfl rfl rfl (hts _ hy.2.1) (hts _ hlk) ⟨hy.2.2.1, hy.2.2.2, hn⟩ hR
theorem z_pre {D : va_G} {cI : ClassId} {w0 : List va_W} {H : Heap} {av : List Value} (hK : va_K D vwCl (z_tys cI) s) (hN : z_nestOK s) (hP : va_P D vwCl w0.flatten H) (hD : va_D A w0.flatten) (U : State) (hU : U.heap = H) (hW : s.WarmedH U.vm) :
    va_Pc av (fun U => U.heap.size = H.size ∧ va_P D vwCl w0.flatten U.heap ∧ va_K D vwCl (z_tys cI) U ∧ z_nestOK U ∧ va_D (fun _ => True) w0.flatten) av.toArray U :=
  ⟨rfl, by rw [hU], by rw [hU]; exact hP, va_K.moved hW.alike hK, z_nestOK.warm hW hN, hD.weaken (fun _ _ _ _ => trivial)⟩

theorem z_callV (C : ZC p s m args meth c own cc nL ret D cI A) {S : Type} {y : MethodName} {yc : ByteArray} {yL : Nat} {yr : Option FieldType} {rm : Room} {wc wr : List va_W} {rv : S → Option Value} {w1 : S → List va_W} {Q : S → Prop} {As rest : List Value} {idx : Nat} {b ci N : Nat} {T : u_T} {fs : List Value} (hci : vwCl[ci]? = some (y.cls, T, N)) (hrc : wc.flatten[0]? = some (b, .inr (ci, fs))) (hM : ZM l D cI y yc yL yr rm (.ref b :: As) wc rv w1 Q) (hy : zYV y yc yL yr) (hlk : Cond.methodLink own idx y ∈ wsL_law) (hdg : decode cc pc = .ok (.invokevirtual idx, 3)) (hst : st = As.reverse ++ .ref b :: rest) (hn : (parseMethodDescriptor y.desc).map (fun d => d.parameters.length) = some As.length) (hR : rm.frames + 1 ≤ R.frames ∧ 8 + (yL + 11) + rm.locals ≤ R.locals) (hroom : cells + rm.cells ≤ R.cells ∧ slots + rm.slots ≤ R.slots) (hrest : (rest.map fun v => v.category).sum ≤ 8) (hp : bs.Perm (wc ++ wr)) (kk : ∀ u : S, Q u → ZZ p l e R s m args below meth c D A nL (cells + rm.cells) (slots + rm.slots) Qf (w1 u ++ wr) (pc + 3) ls ((rv u).toList ++ rest)) : ZZ p l e R s m args below meth c D A nL cells slots Qf bs pc ls st := by
  intro H locs la hP hD hS hl
  obtain ⟨⟨hx, hb, hml, hown, hts⟩, hK, hN, hA, hlk0, hrt⟩ := C
  subst hst
  refine z_after (a := (Value.ref b :: As).toArray) (mc := rm.cells) (ms := rm.slots) (rest := rest) (w1 := w1) (rv := rv) (Q := Q) hA hp hP hD hS hl (fun hPc hDc => ?_) kk
  exact va_runV ⟨hx, hb, hml, hown, hts⟩ (hM H.size) ⟨z_callB hts hy.1 hlk hn hR, hts _ hy.2.1, hts _ hy.2.2⟩ ⟨z_blind, va_recv hK hPc hci hrc, fun U hU hW => z_pre hK hN hPc hDc U hU hW⟩ rfl rfl hl.1.1 rfl (lv_room hrest) hdg hroom
theorem z_callS (C : ZC p s m args meth c own cc nL ret D cI A) {S : Type} {y : MethodName} {yc : ByteArray} {yL : Nat} {yr : Option FieldType} {rm : Room} {wc wr : List va_W} {rv : S → Option Value} {w1 : S → List va_W} {Q : S → Prop} {As rest : List Value} {idx : Nat} (hM : ZM l D cI y yc yL yr rm As wc rv w1 Q) (hy : zYS y yc yL yr) (hlk : Cond.methodLink own idx y ∈ wsL_law) (hdg : decode cc pc = .ok (.invokestatic idx, 3)) (hst : st = As.reverse ++ rest) (hn : (parseMethodDescriptor y.desc).map (fun d => d.parameters.length) = some As.length) (hR : rm.frames + 1 ≤ R.frames ∧ 8 + (yL + 11) + rm.locals ≤ R.locals) (hroom : cells + rm.cells ≤ R.cells ∧ slots + rm.slots ≤ R.slots) (hrest : (rest.map fun v => v.category).sum ≤ 8) (hp : bs.Perm (wc ++ wr)) (kk : ∀ u : S, Q u → ZZ p l e R s m args below meth c D A nL (cells + rm.cells) (slots + rm.slots) Qf (w1 u ++ wr) (pc + 3) ls ((rv u).toList ++ rest)) : ZZ p l e R s m args below meth c D A nL cells slots Qf bs pc ls st := by
  intro H locs la hP hD hS hl
  obtain ⟨⟨hx, hb, hml, hown, hts⟩, hK, hN, hA, hlk0, hrt⟩ := C
  subst hst
  refine z_after (a := As.toArray) (mc := rm.cells) (ms := rm.slots) (rest := rest) (w1 := w1) (rv := rv) (Q := Q) hA hp hP hD hS hl (fun hPc hDc => ?_) kk
  exact va_runS ⟨hx, hb, hml, hown, hts⟩ (hM H.size) ⟨z_callB hts hy.1 hlk hn hR, hts _ hy.2⟩ ⟨z_blind, fun U hU hW => z_pre hK hN hPc hDc U hU hW⟩ rfl rfl hl.1.1 rfl (lv_room hrest) hdg hroom
theorem z_callSN (C : ZC p s m args meth c own cc nL ret D cI A) {S : Type} {y : MethodName} {yc : ByteArray} {yL : Nat} {yr : Option FieldType} {rm : Room} {wc wr : List va_W} {rv : S → Option Value} {w1 : S → List va_W} {Q : S → Prop} {As rest : List Value} {idx : Nat} {host : String} (hM : ZM l D cI y yc yL yr rm As wc rv w1 Q) (hy : zYS y yc yL yr) (hlk : Cond.methodLinkNest own idx y host ∈ z_nest) (hdg : decode cc pc = .ok (.invokestatic idx, 3)) (hst : st = As.reverse ++ rest) (hn : (parseMethodDescriptor y.desc).map (fun d => d.parameters.length) = some As.length) (hR : rm.frames + 1 ≤ R.frames ∧ 8 + (yL + 11) + rm.locals ≤ R.locals) (hroom : cells + rm.cells ≤ R.cells ∧ slots + rm.slots ≤ R.slots) (hrest : (rest.map fun v => v.category).sum ≤ 8) (hp : bs.Perm (wc ++ wr)) (kk : ∀ u : S, Q u → ZZ p l e R s m args below meth c D A nL (cells + rm.cells) (slots + rm.slots) Qf (w1 u ++ wr) (pc + 3) ls ((rv u).toList ++ rest)) : ZZ p l e R s m args below meth c D A nL cells slots Qf bs pc ls st := by
  intro H locs la hP hD hS hl
  obtain ⟨⟨hx, hb, hml, hown, hts⟩, hK, hN, hA, hlk0, hrt⟩ := C
  subst hst
  refine z_after (a := As.toArray) (mc := rm.cells) (ms := rm.slots) (rest := rest) (w1 := w1) (rv := rv) (Q := Q) hA hp hP hD hS hl (fun hPc hDc => ?_) kk
  exact va_runSN ⟨hx, hb, hml, hown, hts⟩ (hM H.size) ⟨va_cnB As.length hts (z_goodIn hy.1.1) rfl rfl rfl (hN _ hlk) (hts _ hy.1.2.1) ⟨hy.1.2.2.1, hy.1.2.2.2, hn⟩ hR, hts _ hy.2, trivial⟩ ⟨z_blind, fun U hU hW => z_pre hK hN hPc hDc U hU hW⟩ rfl rfl hl.1.1 rfl (lv_room hrest) hdg hroom
theorem z_callI (C : ZC p s m args meth c own cc nL ret D cI A) {S : Type} {y : MethodName} {yc : ByteArray} {yL : Nat} {yr : Option FieldType} {rm : Room} {wc wr : List va_W} {rv : S → Option Value} {w1 : S → List va_W} {Q : S → Prop} {As rest : List Value} {idx : Nat} {b : Nat} (hM : ZM l D cI y yc yL none rm (.ref b :: As) wc rv w1 Q) (hy : zYI y yc yL) (hlk : Cond.methodLink own idx y ∈ wsL_law) (hdg : decode cc pc = .ok (.invokespecial idx, 3)) (hst : st = As.reverse ++ .ref b :: rest) (hn : (parseMethodDescriptor y.desc).map (fun d => d.parameters.length) = some As.length) (hR : rm.frames + 1 ≤ R.frames ∧ 8 + (yL + 11) + rm.locals ≤ R.locals) (hroom : cells + rm.cells ≤ R.cells ∧ slots + rm.slots ≤ R.slots) (hrest : (rest.map fun v => v.category).sum ≤ 8) (hp : bs.Perm (wc ++ wr)) (kk : ∀ u : S, Q u → ZZ p l e R s m args below meth c D A nL (cells + rm.cells) (slots + rm.slots) Qf (w1 u ++ wr) (pc + 3) ls ((rv u).toList ++ rest)) : ZZ p l e R s m args below meth c D A nL cells slots Qf bs pc ls st := by
  intro H locs la hP hD hS hl
  obtain ⟨⟨hx, hb, hml, hown, hts⟩, hK, hN, hA, hlk0, hrt⟩ := C
  subst hst
  refine z_after (a := (Value.ref b :: As).toArray) (mc := rm.cells) (ms := rm.slots) (rest := rest) (w1 := w1) (rv := rv) (Q := Q) hA hp hP hD hS hl (fun hPc hDc => ?_) kk
  exact va_runI ⟨hx, hb, hml, hown, hts⟩ (hM H.size) ⟨z_callB hts hy.1 hlk hn hR, hy.2.2, hts _ hy.2.1⟩ ⟨z_blind, fun U hU hW => z_pre hK hN hPc hDc U hU hW⟩ rfl rfl hl.1.1 rfl (lv_room hrest) hdg hroom
theorem z_mmin (C : ZC p s m args meth c own cc nL ret D cI A) {idx : Nat} (hlk : Cond.methodLink own idx Lib.Math.min.name ∈ wsL_law) (hlk2 : Cond.static Lib.Math.min.name ∈ wsL_law) (hlk3 : Cond.initialized "java/lang/Math" ∈ wsL_law) (hlk4 : Cond.code Lib.Math.min.name Lib.Math.min.code 2 (some .int) ∈ wsL_law) (hfr : 1 ≤ R.frames) (hlo : (st.map fun v => v.category).sum + 13 ≤ R.locals) (hroom : cells ≤ R.cells ∧ slots ≤ R.slots) {x y : Int32} (hdg : decode cc pc = .ok (.invokestatic idx, 3)) (kk : ZZ p l e R s m args below meth c D A nL cells slots Qf bs (pc + 3) ls (.int (if y < x then y else x) :: st)) : ZZ p l e R s m args below meth c D A nL cells slots Qf bs pc ls (.int y :: .int x :: st) := by
  intro H locs la hP hD hS hl
  obtain ⟨⟨hx, hb, hml, hown, hts⟩, hK, hN, hA, hlk0, hrt⟩ := C
  exact va_mmin hx hb (hml.trans hl.1.1.symm) hown (hts _ hlk) (hts _ hlk2) (hts _ hlk3) (hts _ hlk4) hfr hlo hroom.1 hroom.2 hdg (kk H locs la hP hD hS hl)
theorem z_mmax (C : ZC p s m args meth c own cc nL ret D cI A) {idx : Nat} (hlk : Cond.methodLink own idx Lib.Math.max.name ∈ wsL_law) (hlk2 : Cond.static Lib.Math.max.name ∈ wsL_law) (hlk3 : Cond.initialized "java/lang/Math" ∈ wsL_law) (hlk4 : Cond.code Lib.Math.max.name Lib.Math.max.code 2 (some .int) ∈ wsL_law) (hfr : 1 ≤ R.frames) (hlo : (st.map fun v => v.category).sum + 13 ≤ R.locals) (hroom : cells ≤ R.cells ∧ slots ≤ R.slots) {x y : Int32} (hdg : decode cc pc = .ok (.invokestatic idx, 3)) (kk : ZZ p l e R s m args below meth c D A nL cells slots Qf bs (pc + 3) ls (.int (if x < y then y else x) :: st)) : ZZ p l e R s m args below meth c D A nL cells slots Qf bs pc ls (.int y :: .int x :: st) := by
  intro H locs la hP hD hS hl
  obtain ⟨⟨hx, hb, hml, hown, hts⟩, hK, hN, hA, hlk0, hrt⟩ := C
  exact va_mmax hx hb (hml.trans hl.1.1.symm) hown (hts _ hlk) (hts _ hlk2) (hts _ hlk3) (hts _ hlk4) hfr hlo hroom.1 hroom.2 hdg (kk H locs la hP hD hS hl)
theorem z_objInit (C : ZC p s m args meth c own cc nL ret D cI A) {idx b : Nat} {yc : ByteArray} (hlk : Cond.methodLink own idx objectInit ∈ wsL_law) (hlk2 : Cond.instanceMethod objectInit ∈ wsL_law) (hlk3 : Cond.code objectInit ⟨#[0xb1]⟩ 1 none ∈ wsL_law) (hdg : decode cc pc = .ok (.invokespecial idx, 3)) (hfr : 1 ≤ R.frames) (hlo : 12 ≤ R.locals) (kk : ZZ p l e R s m args below meth c D A nL cells slots Qf bs (pc + 3) ls []) : ZZ p l e R s m args below meth c D A nL cells slots Qf bs pc ls [.ref b] := by
  intro H locs la hP hD hS hl
  obtain ⟨⟨hx, hb, hml, hown, hts⟩, hK, hN, hA, hlk0, hrt⟩ := C
  refine W.objInit hx hb hown (hts _ hlk) (hts _ hlk2) (hts _ hlk3) rfl (by rw [hml]; exact hl.1.1) rfl hdg hfr hlo ?_
  exact W.eq (g2 := F0 m (pc + 3) la []) rfl (kk H locs la hP hD hS hl)
theorem z_new (C : ZC p s m args meth c own cc nL ret D cI A) {Cn : String} {T : u_T} {N ci index : Nat} (hin : ∀ w ∈ u_ws Cn T N, w ∈ wsL_law) (hc : vwCl[ci]? = some (Cn, T, N)) (ty : Nat → FieldType) (hty : ∀ k, k < N → parseFieldDescriptor (T k).2.2.1 = some (ty k)) (hlk : Cond.classLink own index Cn ∈ wsL_law) (hlk2 : Cond.instantiable Cn N ∈ wsL_law) (hlk3 : Cond.initialized Cn ∈ wsL_law) (fs : List Value) (hfs : ∀ j, j < N → defaultValue (ty j) = vp_V fs j) (hroom : cells + 1 ≤ R.cells ∧ slots + N ≤ R.slots) (hdg : decode cc pc = .ok (.new index, 3)) (kk : ∀ q : Nat, ZZ p l e R s m args below meth c D A nL (cells + 1) (slots + N) Qf (bs ++ [[(q, .inr (ci, fs))]]) (pc + 3) ls (.ref q :: st)) : ZZ p l e R s m args below meth c D A nL cells slots Qf bs pc ls st := by
  intro H locs la hP hD hS hl
  obtain ⟨⟨hx, hb, hml, hown, hts⟩, hK, hN, hA, hlk0, hrt⟩ := C
  refine va_new hx hb hts hin ty hty hown (hts _ hlk) (hts _ hlk2) (hts _ hlk3) hK hP hD hS hA hc hfs hroom.1 hroom.2 hdg (fun q H1 hP1 hD1 hS1 => ?_)
  refine kk q H1 locs la ?_ ?_ hS1 hl
  · rw [List.flatten_append]; simpa using hP1
  · rw [List.flatten_append]; simpa using hD1
theorem z_newa (C : ZC p s m args meth c own cc nL ret D cI A) (hlk : Cond.arrayClass .int ∈ wsL_law) {n : Int32} (N : Nat) (hn : ¬ n < 0) (hNn : n.toNatClampNeg = N) (hbytes : N * 4 ≤ 536870912) (hroom : cells + 1 ≤ R.cells ∧ slots + N ≤ R.slots) (hdg : decode cc pc = .ok (.newarray .int, 2)) (kk : ∀ q : Nat, ZZ p l e R s m args below meth c D A nL (cells + 1) (slots + N) Qf (bs ++ [[(q, .inl (cI, N, .inl (fun _ => 0)))]]) (pc + 2) ls (.ref q :: st)) : ZZ p l e R s m args below meth c D A nL cells slots Qf bs pc ls (.int n :: st) := by
  intro H locs la hP hD hS hl
  obtain ⟨⟨hx, hb, hml, hown, hts⟩, hK, hN, hA, hlk0, hrt⟩ := C
  refine va_newa (atype := .int) (ty := .int) (a0 := (N, .inl (fun _ => 0))) hx hb (hts _ hlk) rfl hK hP hD hS hA (fun _ => rfl) hn hNn hbytes hroom.1 hroom.2 hdg (fun q cA H1 hK1 hP1 hD1 hS1 => ?_)
  have h1 := (hK.2 0 (cI, .int) rfl).2
  have h2 := (hK1.2 1 (cA, .int) rfl).2
  have h3 : cA = cI := by
    have e1 : s.vm.findClass ("[" ++ FieldType.int.toString) = some cI := h1
    have e2 : s.vm.findClass ("[" ++ FieldType.int.toString) = some cA := h2
    rw [e1] at e2
    exact (Option.some.inj e2).symm
  subst h3
  refine kk q H1 locs la ?_ ?_ hS1 hl
  · rw [List.flatten_append]; simpa using hP1
  · rw [List.flatten_append]; simpa using hD1
theorem z_iret (C : ZC p s m args meth c own cc nL ret D cI A) {S : Type} {rv : S → Option Value} {w1 : S → List va_W} {Q : S → Prop} {v : Int32} (hr0 : ret = some .int) (u : S) (hrv : rv u = some (.int v)) (hQ : Q u) (hbs : bs.flatten = (w1 u).flatten) (hdg : decode cc pc = .ok (.ireturn, 1)) : ZZ p l e R s m args below meth c D A nL cells slots (MQ below (ZQ D A rv w1 Q) args s cells slots A) bs pc ls [.int v] := by
  intro H locs la hP hD hS hl
  obtain ⟨⟨hx, hb, hml, hown, hts⟩, hK, hN, hA, hlk0, hrt⟩ := C
  exact W.iret hx hb (hrt.trans hr0) (fun t ht hW => ⟨⟨u, hrv ▸ rfl, hQ, by rw [ht]; exact hbs ▸ hP, hbs ▸ hD⟩, hS.F ht⟩) hS.2.2 hdg hlk0
theorem z_zret (C : ZC p s m args meth c own cc nL ret D cI A) {S : Type} {rv : S → Option Value} {w1 : S → List va_W} {Q : S → Prop} {v : Int32} (hr0 : ret = some .boolean) (hn : narrow .boolean (.int v) = .int v) (u : S) (hrv : rv u = some (.int v)) (hQ : Q u) (hbs : bs.flatten = (w1 u).flatten) (hdg : decode cc pc = .ok (.ireturn, 1)) : ZZ p l e R s m args below meth c D A nL cells slots (MQ below (ZQ D A rv w1 Q) args s cells slots A) bs pc ls [.int v] := by
  intro H locs la hP hD hS hl
  obtain ⟨⟨hx, hb, hml, hown, hts⟩, hK, hN, hA, hlk0, hrt⟩ := C
  exact W.zret hx hb (hrt.trans hr0) hn (fun t ht hW => ⟨⟨u, hrv ▸ rfl, hQ, by rw [ht]; exact hbs ▸ hP, hbs ▸ hD⟩, hS.F ht⟩) hS.2.2 hdg hlk0
theorem z_aret (C : ZC p s m args meth c own cc nL ret D cI A) {S : Type} {rv : S → Option Value} {w1 : S → List va_W} {Q : S → Prop} {v : Nat} {rt : String} (hr0 : ret = some (.object rt)) (u : S) (hrv : rv u = some (.ref v)) (hQ : Q u) (hbs : bs.flatten = (w1 u).flatten) (hdg : decode cc pc = .ok (.areturn, 1)) : ZZ p l e R s m args below meth c D A nL cells slots (MQ below (ZQ D A rv w1 Q) args s cells slots A) bs pc ls [.ref v] := by
  intro H locs la hP hD hS hl
  obtain ⟨⟨hx, hb, hml, hown, hts⟩, hK, hN, hA, hlk0, hrt⟩ := C
  exact W.aret hx hb (hrt.trans hr0) (Or.inl ⟨_, rfl⟩) (Or.inr ⟨_, rfl⟩) (fun t ht hW => ⟨⟨u, hrv ▸ rfl, hQ, by rw [ht]; exact hbs ▸ hP, hbs ▸ hD⟩, hS.F ht⟩) hS.2.2 hdg hlk0
theorem z_vret (C : ZC p s m args meth c own cc nL ret D cI A) {S : Type} {rv : S → Option Value} {w1 : S → List va_W} {Q : S → Prop} (hr0 : ret = none) (u : S) (hrv : rv u = none) (hQ : Q u) (hbs : bs.flatten = (w1 u).flatten) (hdg : decode cc pc = .ok (.return_, 1)) : ZZ p l e R s m args below meth c D A nL cells slots (MQ below (ZQ D A rv w1 Q) args s cells slots A) bs pc ls [] := by
  intro H locs la hP hD hS hl
  obtain ⟨⟨hx, hb, hml, hown, hts⟩, hK, hN, hA, hlk0, hrt⟩ := C
  exact W.vret hx hb (hrt.trans hr0) (fun t ht hW => ⟨⟨u, hrv ▸ rfl, hQ, by rw [ht]; exact hbs ▸ hP, hbs ▸ hD⟩, hS.F ht⟩) hS.2.2 hdg hlk0
end ZCALL
def zIter1 {A1 : Type} (B : (A1 → Prop) → A1 → Prop) : Nat → A1 → Prop
  | 0, _ => False
  | n + 1, x1 => B (zIter1 B n) x1
def zLoop1 {A1 : Type} (B : (A1 → Prop) → A1 → Prop) (x1 : A1) : Prop := ∃ n : Nat, zIter1 B n x1
theorem zLoop1_w {A1 : Type} {B : (A1 → Prop) → A1 → Prop} (P : A1 → Prop) (h : ∀ K : A1 → Prop, (∀ (x1 : A1), K x1 → P x1) → ∀ (x1 : A1), B K x1 → P x1) : ∀ (x1 : A1), zLoop1 B x1 → P x1 := by
  have key : ∀ (n : Nat) (x1 : A1), zIter1 B n x1 → P x1 := by
    intro n
    induction n with
    | zero => intro x1 h0; exact absurd h0 (by simp [zIter1])
    | succ n ih => intro x1 h0; exact h _ ih x1 h0
  intro x1 ⟨n, hn⟩
  exact key n x1 hn
theorem zLoop1_i {A1 : Type} {B : (A1 → Prop) → A1 → Prop} (I : A1 → Prop) (μ : A1 → Nat) (h : ∀ (K : A1 → Prop) (x1 : A1), I x1 → (∀ (y1 : A1), I y1 → μ y1 < μ x1 → K y1) → B K x1) : ∀ (x1 : A1), I x1 → zLoop1 B x1 := by
  have key : ∀ (n : Nat) (x1 : A1), I x1 → μ x1 < n → zIter1 B n x1 := by
    intro n
    induction n with
    | zero => intro x1 _ h1; exact absurd h1 (Nat.not_lt_zero _)
    | succ n ih => intro x1 h0 h1; exact h _ x1 h0 (fun y1 h2 h3 => ih y1 h2 (by omega))
  intro x1 h0
  exact ⟨μ x1 + 1, key _ x1 h0 (Nat.lt_succ_self _)⟩
def zIter2 {A1 A2 : Type} (B : (A1 → A2 → Prop) → A1 → A2 → Prop) : Nat → A1 → A2 → Prop
  | 0, _, _ => False
  | n + 1, x1, x2 => B (zIter2 B n) x1 x2
def zLoop2 {A1 A2 : Type} (B : (A1 → A2 → Prop) → A1 → A2 → Prop) (x1 : A1) (x2 : A2) : Prop := ∃ n : Nat, zIter2 B n x1 x2
theorem zLoop2_w {A1 A2 : Type} {B : (A1 → A2 → Prop) → A1 → A2 → Prop} (P : A1 → A2 → Prop) (h : ∀ K : A1 → A2 → Prop, (∀ (x1 : A1) (x2 : A2), K x1 x2 → P x1 x2) → ∀ (x1 : A1) (x2 : A2), B K x1 x2 → P x1 x2) : ∀ (x1 : A1) (x2 : A2), zLoop2 B x1 x2 → P x1 x2 := by
  have key : ∀ (n : Nat) (x1 : A1) (x2 : A2), zIter2 B n x1 x2 → P x1 x2 := by
    intro n
    induction n with
    | zero => intro x1 x2 h0; exact absurd h0 (by simp [zIter2])
    | succ n ih => intro x1 x2 h0; exact h _ ih x1 x2 h0
  intro x1 x2 ⟨n, hn⟩
  exact key n x1 x2 hn
theorem zLoop2_i {A1 A2 : Type} {B : (A1 → A2 → Prop) → A1 → A2 → Prop} (I : A1 → A2 → Prop) (μ : A1 → A2 → Nat) (h : ∀ (K : A1 → A2 → Prop) (x1 : A1) (x2 : A2), I x1 x2 → (∀ (y1 : A1) (y2 : A2), I y1 y2 → μ y1 y2 < μ x1 x2 → K y1 y2) → B K x1 x2) : ∀ (x1 : A1) (x2 : A2), I x1 x2 → zLoop2 B x1 x2 := by
  have key : ∀ (n : Nat) (x1 : A1) (x2 : A2), I x1 x2 → μ x1 x2 < n → zIter2 B n x1 x2 := by
    intro n
    induction n with
    | zero => intro x1 x2 _ h1; exact absurd h1 (Nat.not_lt_zero _)
    | succ n ih => intro x1 x2 h0 h1; exact h _ x1 x2 h0 (fun y1 y2 h2 h3 => ih y1 y2 h2 (by omega))
  intro x1 x2 h0
  exact ⟨μ x1 x2 + 1, key _ x1 x2 h0 (Nat.lt_succ_self _)⟩
def zIter3 {A1 A2 A3 : Type} (B : (A1 → A2 → A3 → Prop) → A1 → A2 → A3 → Prop) : Nat → A1 → A2 → A3 → Prop
  | 0, _, _, _ => False
  | n + 1, x1, x2, x3 => B (zIter3 B n) x1 x2 x3
def zLoop3 {A1 A2 A3 : Type} (B : (A1 → A2 → A3 → Prop) → A1 → A2 → A3 → Prop) (x1 : A1) (x2 : A2) (x3 : A3) : Prop := ∃ n : Nat, zIter3 B n x1 x2 x3
theorem zLoop3_w {A1 A2 A3 : Type} {B : (A1 → A2 → A3 → Prop) → A1 → A2 → A3 → Prop} (P : A1 → A2 → A3 → Prop) (h : ∀ K : A1 → A2 → A3 → Prop, (∀ (x1 : A1) (x2 : A2) (x3 : A3), K x1 x2 x3 → P x1 x2 x3) → ∀ (x1 : A1) (x2 : A2) (x3 : A3), B K x1 x2 x3 → P x1 x2 x3) : ∀ (x1 : A1) (x2 : A2) (x3 : A3), zLoop3 B x1 x2 x3 → P x1 x2 x3 := by
  have key : ∀ (n : Nat) (x1 : A1) (x2 : A2) (x3 : A3), zIter3 B n x1 x2 x3 → P x1 x2 x3 := by
    intro n
    induction n with
    | zero => intro x1 x2 x3 h0; exact absurd h0 (by simp [zIter3])
    | succ n ih => intro x1 x2 x3 h0; exact h _ ih x1 x2 x3 h0
  intro x1 x2 x3 ⟨n, hn⟩
  exact key n x1 x2 x3 hn
theorem zLoop3_i {A1 A2 A3 : Type} {B : (A1 → A2 → A3 → Prop) → A1 → A2 → A3 → Prop} (I : A1 → A2 → A3 → Prop) (μ : A1 → A2 → A3 → Nat) (h : ∀ (K : A1 → A2 → A3 → Prop) (x1 : A1) (x2 : A2) (x3 : A3), I x1 x2 x3 → (∀ (y1 : A1) (y2 : A2) (y3 : A3), I y1 y2 y3 → μ y1 y2 y3 < μ x1 x2 x3 → K y1 y2 y3) → B K x1 x2 x3) : ∀ (x1 : A1) (x2 : A2) (x3 : A3), I x1 x2 x3 → zLoop3 B x1 x2 x3 := by
  have key : ∀ (n : Nat) (x1 : A1) (x2 : A2) (x3 : A3), I x1 x2 x3 → μ x1 x2 x3 < n → zIter3 B n x1 x2 x3 := by
    intro n
    induction n with
    | zero => intro x1 x2 x3 _ h1; exact absurd h1 (Nat.not_lt_zero _)
    | succ n ih => intro x1 x2 x3 h0 h1; exact h _ x1 x2 x3 h0 (fun y1 y2 y3 h2 h3 => ih y1 y2 y3 h2 (by omega))
  intro x1 x2 x3 h0
  exact ⟨μ x1 x2 x3 + 1, key _ x1 x2 x3 h0 (Nat.lt_succ_self _)⟩
def zIter4 {A1 A2 A3 A4 : Type} (B : (A1 → A2 → A3 → A4 → Prop) → A1 → A2 → A3 → A4 → Prop) : Nat → A1 → A2 → A3 → A4 → Prop
  | 0, _, _, _, _ => False
  | n + 1, x1, x2, x3, x4 => B (zIter4 B n) x1 x2 x3 x4
def zLoop4 {A1 A2 A3 A4 : Type} (B : (A1 → A2 → A3 → A4 → Prop) → A1 → A2 → A3 → A4 → Prop) (x1 : A1) (x2 : A2) (x3 : A3) (x4 : A4) : Prop := ∃ n : Nat, zIter4 B n x1 x2 x3 x4
theorem zLoop4_w {A1 A2 A3 A4 : Type} {B : (A1 → A2 → A3 → A4 → Prop) → A1 → A2 → A3 → A4 → Prop} (P : A1 → A2 → A3 → A4 → Prop) (h : ∀ K : A1 → A2 → A3 → A4 → Prop, (∀ (x1 : A1) (x2 : A2) (x3 : A3) (x4 : A4), K x1 x2 x3 x4 → P x1 x2 x3 x4) → ∀ (x1 : A1) (x2 : A2) (x3 : A3) (x4 : A4), B K x1 x2 x3 x4 → P x1 x2 x3 x4) : ∀ (x1 : A1) (x2 : A2) (x3 : A3) (x4 : A4), zLoop4 B x1 x2 x3 x4 → P x1 x2 x3 x4 := by
  have key : ∀ (n : Nat) (x1 : A1) (x2 : A2) (x3 : A3) (x4 : A4), zIter4 B n x1 x2 x3 x4 → P x1 x2 x3 x4 := by
    intro n
    induction n with
    | zero => intro x1 x2 x3 x4 h0; exact absurd h0 (by simp [zIter4])
    | succ n ih => intro x1 x2 x3 x4 h0; exact h _ ih x1 x2 x3 x4 h0
  intro x1 x2 x3 x4 ⟨n, hn⟩
  exact key n x1 x2 x3 x4 hn
theorem zLoop4_i {A1 A2 A3 A4 : Type} {B : (A1 → A2 → A3 → A4 → Prop) → A1 → A2 → A3 → A4 → Prop} (I : A1 → A2 → A3 → A4 → Prop) (μ : A1 → A2 → A3 → A4 → Nat) (h : ∀ (K : A1 → A2 → A3 → A4 → Prop) (x1 : A1) (x2 : A2) (x3 : A3) (x4 : A4), I x1 x2 x3 x4 → (∀ (y1 : A1) (y2 : A2) (y3 : A3) (y4 : A4), I y1 y2 y3 y4 → μ y1 y2 y3 y4 < μ x1 x2 x3 x4 → K y1 y2 y3 y4) → B K x1 x2 x3 x4) : ∀ (x1 : A1) (x2 : A2) (x3 : A3) (x4 : A4), I x1 x2 x3 x4 → zLoop4 B x1 x2 x3 x4 := by
  have key : ∀ (n : Nat) (x1 : A1) (x2 : A2) (x3 : A3) (x4 : A4), I x1 x2 x3 x4 → μ x1 x2 x3 x4 < n → zIter4 B n x1 x2 x3 x4 := by
    intro n
    induction n with
    | zero => intro x1 x2 x3 x4 _ h1; exact absurd h1 (Nat.not_lt_zero _)
    | succ n ih => intro x1 x2 x3 x4 h0 h1; exact h _ x1 x2 x3 x4 h0 (fun y1 y2 y3 y4 h2 h3 => ih y1 y2 y3 y4 h2 (by omega))
  intro x1 x2 x3 x4 h0
  exact ⟨μ x1 x2 x3 x4 + 1, key _ x1 x2 x3 x4 h0 (Nat.lt_succ_self _)⟩
def zIter5 {A1 A2 A3 A4 A5 : Type} (B : (A1 → A2 → A3 → A4 → A5 → Prop) → A1 → A2 → A3 → A4 → A5 → Prop) : Nat → A1 → A2 → A3 → A4 → A5 → Prop
  | 0, _, _, _, _, _ => False
  | n + 1, x1, x2, x3, x4, x5 => B (zIter5 B n) x1 x2 x3 x4 x5
def zLoop5 {A1 A2 A3 A4 A5 : Type} (B : (A1 → A2 → A3 → A4 → A5 → Prop) → A1 → A2 → A3 → A4 → A5 → Prop) (x1 : A1) (x2 : A2) (x3 : A3) (x4 : A4) (x5 : A5) : Prop := ∃ n : Nat, zIter5 B n x1 x2 x3 x4 x5
theorem zLoop5_w {A1 A2 A3 A4 A5 : Type} {B : (A1 → A2 → A3 → A4 → A5 → Prop) → A1 → A2 → A3 → A4 → A5 → Prop} (P : A1 → A2 → A3 → A4 → A5 → Prop) (h : ∀ K : A1 → A2 → A3 → A4 → A5 → Prop, (∀ (x1 : A1) (x2 : A2) (x3 : A3) (x4 : A4) (x5 : A5), K x1 x2 x3 x4 x5 → P x1 x2 x3 x4 x5) → ∀ (x1 : A1) (x2 : A2) (x3 : A3) (x4 : A4) (x5 : A5), B K x1 x2 x3 x4 x5 → P x1 x2 x3 x4 x5) : ∀ (x1 : A1) (x2 : A2) (x3 : A3) (x4 : A4) (x5 : A5), zLoop5 B x1 x2 x3 x4 x5 → P x1 x2 x3 x4 x5 := by
  have key : ∀ (n : Nat) (x1 : A1) (x2 : A2) (x3 : A3) (x4 : A4) (x5 : A5), zIter5 B n x1 x2 x3 x4 x5 → P x1 x2 x3 x4 x5 := by
    intro n
    induction n with
    | zero => intro x1 x2 x3 x4 x5 h0; exact absurd h0 (by simp [zIter5])
    | succ n ih => intro x1 x2 x3 x4 x5 h0; exact h _ ih x1 x2 x3 x4 x5 h0
  intro x1 x2 x3 x4 x5 ⟨n, hn⟩
  exact key n x1 x2 x3 x4 x5 hn
theorem zLoop5_i {A1 A2 A3 A4 A5 : Type} {B : (A1 → A2 → A3 → A4 → A5 → Prop) → A1 → A2 → A3 → A4 → A5 → Prop} (I : A1 → A2 → A3 → A4 → A5 → Prop) (μ : A1 → A2 → A3 → A4 → A5 → Nat) (h : ∀ (K : A1 → A2 → A3 → A4 → A5 → Prop) (x1 : A1) (x2 : A2) (x3 : A3) (x4 : A4) (x5 : A5), I x1 x2 x3 x4 x5 → (∀ (y1 : A1) (y2 : A2) (y3 : A3) (y4 : A4) (y5 : A5), I y1 y2 y3 y4 y5 → μ y1 y2 y3 y4 y5 < μ x1 x2 x3 x4 x5 → K y1 y2 y3 y4 y5) → B K x1 x2 x3 x4 x5) : ∀ (x1 : A1) (x2 : A2) (x3 : A3) (x4 : A4) (x5 : A5), I x1 x2 x3 x4 x5 → zLoop5 B x1 x2 x3 x4 x5 := by
  have key : ∀ (n : Nat) (x1 : A1) (x2 : A2) (x3 : A3) (x4 : A4) (x5 : A5), I x1 x2 x3 x4 x5 → μ x1 x2 x3 x4 x5 < n → zIter5 B n x1 x2 x3 x4 x5 := by
    intro n
    induction n with
    | zero => intro x1 x2 x3 x4 x5 _ h1; exact absurd h1 (Nat.not_lt_zero _)
    | succ n ih => intro x1 x2 x3 x4 x5 h0 h1; exact h _ x1 x2 x3 x4 x5 h0 (fun y1 y2 y3 y4 y5 h2 h3 => ih y1 y2 y3 y4 y5 h2 (by omega))
  intro x1 x2 x3 x4 x5 h0
  exact ⟨μ x1 x2 x3 x4 x5 + 1, key _ x1 x2 x3 x4 x5 h0 (Nat.lt_succ_self _)⟩
def zIter6 {A1 A2 A3 A4 A5 A6 : Type} (B : (A1 → A2 → A3 → A4 → A5 → A6 → Prop) → A1 → A2 → A3 → A4 → A5 → A6 → Prop) : Nat → A1 → A2 → A3 → A4 → A5 → A6 → Prop
  | 0, _, _, _, _, _, _ => False
  | n + 1, x1, x2, x3, x4, x5, x6 => B (zIter6 B n) x1 x2 x3 x4 x5 x6
def zLoop6 {A1 A2 A3 A4 A5 A6 : Type} (B : (A1 → A2 → A3 → A4 → A5 → A6 → Prop) → A1 → A2 → A3 → A4 → A5 → A6 → Prop) (x1 : A1) (x2 : A2) (x3 : A3) (x4 : A4) (x5 : A5) (x6 : A6) : Prop := ∃ n : Nat, zIter6 B n x1 x2 x3 x4 x5 x6
theorem zLoop6_w {A1 A2 A3 A4 A5 A6 : Type} {B : (A1 → A2 → A3 → A4 → A5 → A6 → Prop) → A1 → A2 → A3 → A4 → A5 → A6 → Prop} (P : A1 → A2 → A3 → A4 → A5 → A6 → Prop) (h : ∀ K : A1 → A2 → A3 → A4 → A5 → A6 → Prop, (∀ (x1 : A1) (x2 : A2) (x3 : A3) (x4 : A4) (x5 : A5) (x6 : A6), K x1 x2 x3 x4 x5 x6 → P x1 x2 x3 x4 x5 x6) → ∀ (x1 : A1) (x2 : A2) (x3 : A3) (x4 : A4) (x5 : A5) (x6 : A6), B K x1 x2 x3 x4 x5 x6 → P x1 x2 x3 x4 x5 x6) : ∀ (x1 : A1) (x2 : A2) (x3 : A3) (x4 : A4) (x5 : A5) (x6 : A6), zLoop6 B x1 x2 x3 x4 x5 x6 → P x1 x2 x3 x4 x5 x6 := by
  have key : ∀ (n : Nat) (x1 : A1) (x2 : A2) (x3 : A3) (x4 : A4) (x5 : A5) (x6 : A6), zIter6 B n x1 x2 x3 x4 x5 x6 → P x1 x2 x3 x4 x5 x6 := by
    intro n
    induction n with
    | zero => intro x1 x2 x3 x4 x5 x6 h0; exact absurd h0 (by simp [zIter6])
    | succ n ih => intro x1 x2 x3 x4 x5 x6 h0; exact h _ ih x1 x2 x3 x4 x5 x6 h0
  intro x1 x2 x3 x4 x5 x6 ⟨n, hn⟩
  exact key n x1 x2 x3 x4 x5 x6 hn
theorem zLoop6_i {A1 A2 A3 A4 A5 A6 : Type} {B : (A1 → A2 → A3 → A4 → A5 → A6 → Prop) → A1 → A2 → A3 → A4 → A5 → A6 → Prop} (I : A1 → A2 → A3 → A4 → A5 → A6 → Prop) (μ : A1 → A2 → A3 → A4 → A5 → A6 → Nat) (h : ∀ (K : A1 → A2 → A3 → A4 → A5 → A6 → Prop) (x1 : A1) (x2 : A2) (x3 : A3) (x4 : A4) (x5 : A5) (x6 : A6), I x1 x2 x3 x4 x5 x6 → (∀ (y1 : A1) (y2 : A2) (y3 : A3) (y4 : A4) (y5 : A5) (y6 : A6), I y1 y2 y3 y4 y5 y6 → μ y1 y2 y3 y4 y5 y6 < μ x1 x2 x3 x4 x5 x6 → K y1 y2 y3 y4 y5 y6) → B K x1 x2 x3 x4 x5 x6) : ∀ (x1 : A1) (x2 : A2) (x3 : A3) (x4 : A4) (x5 : A5) (x6 : A6), I x1 x2 x3 x4 x5 x6 → zLoop6 B x1 x2 x3 x4 x5 x6 := by
  have key : ∀ (n : Nat) (x1 : A1) (x2 : A2) (x3 : A3) (x4 : A4) (x5 : A5) (x6 : A6), I x1 x2 x3 x4 x5 x6 → μ x1 x2 x3 x4 x5 x6 < n → zIter6 B n x1 x2 x3 x4 x5 x6 := by
    intro n
    induction n with
    | zero => intro x1 x2 x3 x4 x5 x6 _ h1; exact absurd h1 (Nat.not_lt_zero _)
    | succ n ih => intro x1 x2 x3 x4 x5 x6 h0 h1; exact h _ x1 x2 x3 x4 x5 x6 h0 (fun y1 y2 y3 y4 y5 y6 h2 h3 => ih y1 y2 y3 y4 y5 y6 h2 (by omega))
  intro x1 x2 x3 x4 x5 x6 h0
  exact ⟨μ x1 x2 x3 x4 x5 x6 + 1, key _ x1 x2 x3 x4 x5 x6 h0 (Nat.lt_succ_self _)⟩
