/-! the script: what 'cell' does; the law's frame -/
abbrev ZLW (p : Program) (l : Launch) (e : Env) (s : State) (m : MethodId) (below : List Frame) (meth : Method) (c : Code) (D : va_G) (b : Nat) (bs : List va_W) (pc : Nat) (ls : List (Option Value)) (st : List Value) : Prop := ZZ p l e room_1 s m #[Value.ref b] below meth c D (fun q : Nat => s.heap.size ≤ q) 10 259 5107 (lw_Z below #[Value.ref b] s) bs pc ls st
abbrev LC (p : Program) (s : State) (m : MethodId) (meth : Method) (c : Code) (D : va_G) (cI : ClassId) (b : Nat) : Prop := ZC p s m #[Value.ref b] meth c RX8 code 10 ret D cI (fun q : Nat => s.heap.size ≤ q)
section ZX
variable {p : Program} {l : Launch} {e : Env} {R : Room} {s : State} {m : MethodId} {args : Array Value} {below : List Frame} {meth : Method} {c : Code} {own : String} {cc : ByteArray} {nL : Nat} {ret : Option FieldType} {D : va_G} {cI : ClassId} {A : Nat → Prop} {cells slots : Nat} {Qf : State → Prop} {bs : List va_W} {pc : Nat} {ls : List (Option Value)} {st : List Value}
theorem z_sldG (C : ZC p s m args meth c own cc nL ret D cI A) {b L : Nat} {xs : Nat → Int32} (hX : va_X b L xs s s.heap) (hbl : b < s.heap.size) (hbA : ¬ A b) {i : Int32} (hin : vp_in i L) (hdg : decode cc pc = .ok (.iaload, 1)) (kk : ZZ p l e R s m args below meth c D A nL cells slots Qf bs (pc + 1) ls (.int (xs i.toNatClampNeg) :: st)) : ZZ p l e R s m args below meth c D A nL cells slots Qf bs pc ls (.int i :: .ref b :: st) := by
  intro H locs la hP hD hS hl
  obtain ⟨⟨hx, hb, hml, hown, hts⟩, hK, hN, hA, hlk, hrt⟩ := C
  exact va_sld hx hb hX hbl hbA hS hin hdg (kk H locs la hP hD hS hl)
theorem z_slenG (C : ZC p s m args meth c own cc nL ret D cI A) {b L : Nat} {xs : Nat → Int32} (hX : va_X b L xs s s.heap) (hbl : b < s.heap.size) (hbA : ¬ A b) (hdg : decode cc pc = .ok (.arraylength, 1)) (kk : ZZ p l e R s m args below meth c D A nL cells slots Qf bs (pc + 1) ls (.int (nI L) :: st)) : ZZ p l e R s m args below meth c D A nL cells slots Qf bs pc ls (.ref b :: st) := by
  intro H locs la hP hD hS hl
  obtain ⟨⟨hx, hb, hml, hown, hts⟩, hK, hN, hA, hlk, hrt⟩ := C
  exact va_slen hx hb hX hbl hbA hS hdg (kk H locs la hP hD hS hl)
end ZX
def rmX8_cell : Room := { frames := 0, cells := 0, slots := 0, locals := 0 }
def cell_pre (D : va_G) (cI : ClassId) (b L : Nat) (xs : Nat → Int32) (i : Int32) (sz : Nat) : Array Value → State → Prop := va_Pc [.ref b, .int i] (fun U => U.heap.size = sz ∧ b < sz ∧ va_X b L xs U U.heap ∧ va_K D vwCl (z_tys cI) U ∧ z_nestOK U)
theorem cell_blind {D : va_G} {cI : ClassId} {b L : Nat} {xs : Nat → Int32} {i : Int32} {sz : Nat} : FrameBlind (cell_pre D cI b L xs i sz) := by
  intro a U g mk q
  obtain ⟨q0, q1, q2, qX, qK, qN⟩ := q
  exact ⟨q0, q1, q2, va_X.moved (u := U) (U := U.calling g mk a) (Vm.Alike.refl U.vm) qX, va_K.moved (u := U) (U := U.calling g mk a) (Vm.Alike.refl U.vm) qK, z_nestOK.same (u := U) (U := U.calling g mk a) rfl qN⟩
theorem cell_in {i : Int32} {L : Nat} (hi : ¬ i < 0) (hL : L ≤ 260) (h : ¬ nI L ≤ i) : vp_in i L := by
  rintro (q | q)
  · exact hi q
  · refine h ?_
    rw [Int32.le_iff_toInt_le, nI_toInt (by omega)]
    have e0 : (0 : Int32).toInt = 0 := by decide
    rw [Int32.lt_iff_toInt_lt, e0] at hi
    have : i.toNatClampNeg = i.toInt.toNat := rfl
    omega
set_option maxHeartbeats 4000000 in
set_option maxRecDepth 100000 in
theorem met_X8_cell (l : Launch) (D : va_G) (cI : ClassId) (b L : Nat) (xs : Nat → Int32) (i : Int32) (hi : ¬ i < 0) (hL : L ≤ 260) (sz : Nat) : Met l yX8_cell (.code yX8_cell cX8_cell 2 (some .int) :: wsL_law) rmX8_cell (cell_pre D cI b L xs i sz) (ZQ D (va_A ([] : List va_W).flatten sz) (fun r : Int32 => some (.int r)) (fun _ => []) (fun _ => True)) rmX8_cell.cells rmX8_cell.slots (va_A ([] : List va_W).flatten sz) := by
  refine Met.ofW (cc := cX8_cell) (maxL := 2) (ret := some .int) (by decide +kernel) rfl ?_
  intro p e s m args below meth c s₁ B hml hv
  obtain ⟨rfl, hsz, hbs, hX, hK, hN⟩ := hv
  subst hsz
  have hts := atoms_spec (ws := .code yX8_cell cX8_cell 2 (some .int) :: wsL_law) B.pre
  have hown : s.vm.findClass yX8_cell.cls = some m.cls := findClass_of_methodNamed B.named
  have C : ZC p s m (([.ref b, .int i] : List Value).toArray) meth c RX8 cX8_cell 2 (some .int) D cI (va_A ([] : List va_W).flatten s.heap.size) := ⟨⟨B.exec, B.bytes, hml, hown, fun w hw => hts w (List.mem_cons_of_mem _ hw)⟩, hK, hN, fun q h => Or.inr h, B.notSynchronized, B.returns⟩
  have hbA : ¬ va_A ([] : List va_W).flatten s.heap.size b := by
    intro h
    rcases z_Aiff.mp h with h | h
    · simp at h
    · omega
  have K : ZZ p l e rmX8_cell s m (([.ref b, .int i] : List Value).toArray) below meth c D (va_A ([] : List va_W).flatten s.heap.size) 2 0 0 (MQ below (ZQ D (va_A ([] : List va_W).flatten s.heap.size) (fun r : Int32 => some (.int r)) (fun _ => []) (fun _ => True)) (([.ref b, .int i] : List Value).toArray) s 0 0 (va_A ([] : List va_W).flatten s.heap.size)) [] 0 [some (.ref b), some (.int i)] [] := by
    have fin : ∀ v : Int32, ZZ p l e rmX8_cell s m (([.ref b, .int i] : List Value).toArray) below meth c D (va_A ([] : List va_W).flatten s.heap.size) 2 0 0 (MQ below (ZQ D (va_A ([] : List va_W).flatten s.heap.size) (fun r : Int32 => some (.int r)) (fun _ => []) (fun _ => True)) (([.ref b, .int i] : List Value).toArray) s 0 0 (va_A ([] : List va_W).flatten s.heap.size)) [] 24 [some (.ref b), some (.int i)] [.int v] := fun v => z_iret C rfl v rfl trivial rfl dX8_cell_24
    refine z_iload_n C dX8_cell_0 rfl ?_
    refine z_aload_n C dX8_cell_1 rfl ?_
    refine z_slenG C hX hbs hbA dX8_cell_2 ?_
    refine z_icmp_ge C dX8_cell_3 12 (by decide) (fun h => ?_) (fun h => ?_)
    · refine z_sipush C dX8_cell_12 7919 (by decide +kernel) ?_
      refine z_iload_n C dX8_cell_15 rfl ?_
      refine z_iconst C dX8_cell_16 3 (by decide +kernel) ?_
      refine z_iadd C dX8_cell_17 ?_
      refine z_imul C dX8_cell_18 ?_
      refine z_iload_n C dX8_cell_19 rfl ?_
      refine z_bipush C dX8_cell_20 11 (by decide +kernel) ?_
      refine z_iadd C dX8_cell_22 ?_
      refine z_imul C dX8_cell_23 ?_
      exact fin _
    · refine z_aload_n C dX8_cell_6 rfl ?_
      refine z_iload_n C dX8_cell_7 rfl ?_
      refine z_sldG C hX hbs hbA (cell_in hi hL h) dX8_cell_8 ?_
      refine z_goto C dX8_cell_9 24 (by decide) ?_
      exact fin _
  rw [lg_entry_eq]
  exact K s.heap [] _ (fun k q h => by simp at h) ⟨fun i j p q h => by simp at h, fun k q h => by simp at h⟩ va_S.rf (zL.entry [.ref b, .int i] (z_vals (v := .int 0) rfl) (Nat.le_of_ble_eq_true rfl) _ rfl)
section LW
variable {p : Program} {l : Launch} {e : Env} {s : State} {m : MethodId} {below : List Frame} {meth : Method} {c : Code} {D : va_G} {cI : ClassId} {b L : Nat} {xs : Nat → Int32}
theorem z_cellcall (C : LC p s m meth c D cI b) (hX : va_X b L xs s s.heap) (hbl : b < s.heap.size) (hL : L ≤ 260) {cells slots pc idx : Nat} {Qf : State → Prop} {bs : List va_W} {ls : List (Option Value)} {rest st : List Value} {i : Int32} (hi : ¬ i < 0) (hlk : Cond.methodLink RX8 idx yX8_cell ∈ wsL_law) (hdg : decode code pc = .ok (.invokestatic idx, 3)) (hst : st = .int i :: .ref b :: rest) (hrest : (rest.map fun v => v.category).sum ≤ 8) (hroom : cells + 0 ≤ room_1.cells ∧ slots + 0 ≤ room_1.slots)
    (kk : ∀ r : Int32, ZZ p l e room_1 s m #[Value.ref b] below meth c D (fun q : Nat => s.heap.size ≤ q) 10 cells slots Qf bs (pc + 3) ls (.int r :: rest)) : ZZ p l e room_1 s m #[Value.ref b] below meth c D (fun q : Nat => s.heap.size ≤ q) 10 cells slots Qf bs pc ls st := by
  intro H locs la hP hD hS hl
  obtain ⟨⟨hx, hb, hml, hown, hts⟩, hK, hN, hA, hlk0, hrt⟩ := C
  subst hst
  have hbH : b < H.size := Nat.lt_of_lt_of_le hbl hS.1
  have hkb : H[b]? = s.heap[b]? := hS.2.1 b hbl (Nat.not_le.mpr hbl)
  refine z_after (S := Int32) (wc := []) (wr := bs) (a := #[Value.ref b, .int i]) (mc := 0) (ms := 0) (rest := rest) (w1 := fun _ => []) (rv := fun r => some (.int r)) (Q := fun _ => True) hA (List.Perm.refl _) hP hD hS hl (fun _ _ => ?_) (fun u _ => kk u)
  exact va_runS ⟨hx, hb, hml, hown, hts⟩ (met_X8_cell l D cI b L xs i hi hL H.size) ⟨z_callB hts y_X8_cell.1 hlk n_X8_cell ⟨Nat.le_of_ble_eq_true rfl, Nat.le_of_ble_eq_true rfl⟩, hts _ y_X8_cell.2⟩ ⟨cell_blind, fun U hU hW => ⟨rfl, by rw [hU], hbH, by rw [hU]; exact (hX.kept hkb).moved hW.alike, va_K.moved hW.alike hK, z_nestOK.warm hW hN⟩⟩ rfl rfl hl.1.1 rfl (lv_room hrest) hdg hroom
theorem z_lret (C : LC p s m meth c D cI b) {bs : List va_W} {pc : Nat} {ls : List (Option Value)} {cells slots : Nat} (hc : cells ≤ 600000) (hs : slots ≤ 7302250) (hdg : decode code pc = .ok (.ireturn, 1)) : ZZ p l e room_1 s m #[Value.ref b] below meth c D (fun q : Nat => s.heap.size ≤ q) 10 cells slots (lw_Z below #[Value.ref b] s) bs pc ls [.int 1] := by
  intro H locs la hP hD hS hl
  obtain ⟨⟨hx, hb, hml, hown, hts⟩, hK, hN, hA, hlk, hrt⟩ := C
  refine va_forget (fun q hq => hS.2.2 q hq) ?_
  refine W.widen (k := 600000) (n := 7302250) hc hs ?_
  exact lw_ret hx hb hrt hlk hdg
end LW
