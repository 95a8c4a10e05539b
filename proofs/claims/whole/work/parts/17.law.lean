/-! THE CLAIM OUT OF ONE WALK OF THE LAW'S BODY. Your part is whole_start (and what it stands on); all else here is the same for every law, but numbers. -/
def R_law : String := "ReshapedTextsLaw"
def lw_P (b : Addr) (xs : List Int32) (args : Array Value) (s : State) : Prop := args = #[.ref b] ∧ s.IntsAt b xs ∧ xs.length ≤ 2048 ∧ (Jvm.Cond.and given_1 narrow_1).before args s = true
def lw_Q (_ : Array Value) (s : State) (o : Outcome) (t : State) : Prop := o = .returned (some (.int 1)) ∧ Framed s o t [] 600000 7302250
def lw_Z (below : List Frame) (a : Array Value) (s : State) : State → Prop := fun t => ∃ o, t.status = .running ∧ Ended t below o ∧ lw_Q a s o t
/-- the law's own end, with 1 on the stack, nothing written that was there before, its room as the claim has it -/
theorem lw_ret {p : Program} {l : Launch} {e : Env} {s : State} {m : MethodId} {below : List Frame} {meth : Method} {c : Code} {b : Nat} (hx : p.tables.exec = Jvm.exec) (hb : c.code = code) (hr : meth.sig.returnType = ret) (hlocks : meth.locks = false) {pc : Nat} {H : Heap} {ls : Array Slot} (hdg : decode code pc = .ok (.ireturn, 1)) : W p l e room_1 s m #[Value.ref b] below meth c H [] 600000 7302250 (lw_Z below #[Value.ref b] s) (F0 m pc ls [.int 1]) := by
  intro T hT X
  obtain ⟨fs, hret, hrun, hended, hW, hframe⟩ := X.leave (v := some (.int 1)) (hlocks := hlocks) (fun h => by rw [hr] at h; cases h)
  have hmeth' : T.vm.method? m = some meth := X.method'
  refine ⟨T.setFrames fs, ?_, .returned (some (.int 1)), hrun, hended, rfl, ⟨_, rfl⟩, hW, hframe⟩
  jvm_step X.here [X.here.top, hx, hb, hdg, hmeth', hr, ret, narrow_b1]
  (try refine ⟨rfl, ?_⟩); (try refine ⟨rfl, ?_⟩)
  first | (intro acts; rw [hret _ acts rfl rfl rfl]) | rw [hret _ _ rfl rfl rfl]
  exact Steps.refl _
/-- what holds at the law's entry: the machine, the code, the tables' words (any of lw_tbl by 'hts w (by decide +kernel)'), the script of L ints xs at the cell b, what the Statement gives of the start (any of its parts by flat_of_before) -/
def lw_At (p : Program) (s : State) (m : MethodId) (meth : Method) (c : Code) (b L : Nat) (xs : Nat → Int32) : Prop :=
  p.tables.exec = Jvm.exec ∧ c.code = code ∧ meth.sig.returnType = ret ∧ c.maxLocals = 4 ∧ s.vm.findClass R_law = some m.cls ∧ (∀ w ∈ lw_tbl, w.before #[Value.ref b] s = true) ∧ va_X b L xs s s.heap ∧ b < s.heap.size ∧ meth.locks = false ∧ (Jvm.Cond.and given_1 narrow_1).before #[Value.ref b] s = true
/-! the law: a case a method, the loop, the entry -/
abbrev ZLW (p : Program) (l : Launch) (e : Env) (s : State) (m : MethodId) (below : List Frame) (meth : Method) (c : Code) (D : va_G) (cI : ClassId) (b : Nat) (gx gm : Nat → Nat) (x : zX) (v : zM) (pc : Nat) (ls : List (Option Value)) (st : List Value) : Prop := ZZ p l e room_1 s m #[Value.ref b] below meth c D (fun q : Nat => s.heap.size ≤ q) 4 268 8146 (lw_Z below #[Value.ref b] s) [wX cI gx x, (wMx cI gm (mS v) (mAside v) (mBefore v) (mText v) (mLetters v) (mBys v) (mFirst v) (mCommand v) (mKnown v) (mLength v) (mLogLong v) (mAreSame v) (mAt v) (mIsWrong v) (mPosition v) (mReason v) (mCause v))] pc ls st
section LW
variable {p : Program} {l : Launch} {e : Env} {s : State} {m : MethodId} {below : List Frame} {meth : Method} {c : Code} {D : va_G} {cI : ClassId} {b L : Nat} {xs : Nat → Int32} {gx gm : Nat → Nat}
abbrev LC (p : Program) (s : State) (m : MethodId) (meth : Method) (c : Code) (D : va_G) (cI : ClassId) (b : Nat) : Prop := ZC p s m #[Value.ref b] meth c RL code 4 ret D cI (fun q : Nat => s.heap.size ≤ q)
theorem law_in {i j L : Nat} {cj : Int32} (hc : cj = nI j) (h : i + j < L) (hL : L ≤ 2048) : vp_in (nI i + cj) L := by
  subst hc
  rw [nI_add]
  exact vp_in_nI h (by omega)
section LSC
variable {Qf : State → Prop} {cells slots pc : Nat} {bs : List va_W} {ls : List (Option Value)} {st : List Value}
theorem z_sld (C : LC p s m meth c D cI b) (hX : va_X b L xs s s.heap) (hbl : b < s.heap.size) {i : Int32} (hin : vp_in i L) (hdg : decode code pc = .ok (.iaload, 1)) (kk : ZZ p l e room_1 s m #[Value.ref b] below meth c D (fun q : Nat => s.heap.size ≤ q) 4 cells slots Qf bs (pc + 1) ls (.int (xs i.toNatClampNeg) :: st)) : ZZ p l e room_1 s m #[Value.ref b] below meth c D (fun q : Nat => s.heap.size ≤ q) 4 cells slots Qf bs pc ls (.int i :: .ref b :: st) := by
  intro H locs la hP hD hS hl
  obtain ⟨⟨hx, hb, hml, hown, hts⟩, hK, hN, hA, hlk, hrt⟩ := C
  exact va_sld hx hb hX hbl (Nat.not_le.mpr hbl) hS hin hdg (kk H locs la hP hD hS hl)
theorem z_slen (C : LC p s m meth c D cI b) (hX : va_X b L xs s s.heap) (hbl : b < s.heap.size) (hdg : decode code pc = .ok (.arraylength, 1)) (kk : ZZ p l e room_1 s m #[Value.ref b] below meth c D (fun q : Nat => s.heap.size ≤ q) 4 cells slots Qf bs (pc + 1) ls (.int (nI L) :: st)) : ZZ p l e room_1 s m #[Value.ref b] below meth c D (fun q : Nat => s.heap.size ≤ q) 4 cells slots Qf bs pc ls (.ref b :: st) := by
  intro H locs la hP hD hS hl
  obtain ⟨⟨hx, hb, hml, hown, hts⟩, hK, hN, hA, hlk, hrt⟩ := C
  exact va_slen hx hb hX hbl (Nat.not_le.mpr hbl) hS hdg (kk H locs la hP hD hS hl)
end LSC
theorem z_lret (C : LC p s m meth c D cI b) {bs : List va_W} {pc : Nat} {ls : List (Option Value)} {cells slots : Nat} (hc : cells ≤ 600000) (hs : slots ≤ 7302250) (hdg : decode code pc = .ok (.ireturn, 1)) : ZZ p l e room_1 s m #[Value.ref b] below meth c D (fun q : Nat => s.heap.size ≤ q) 4 cells slots (lw_Z below #[Value.ref b] s) bs pc ls [.int 1] := by
  intro H locs la hP hD hS hl
  obtain ⟨⟨hx, hb, hml, hown, hts⟩, hK, hN, hA, hlk, hrt⟩ := C
  refine va_forget (fun q hq => hS.2.2 q hq) ?_
  refine W.widen (k := 600000) (n := 7302250) hc hs ?_
  exact lw_ret hx hb hrt hlk hdg
def op_insert (Rel : zX → zM → Prop) : Prop := ∀ (x : zX) (v : zM) (a1 : Int32) (a2 : Int32) (a3 : Int32), Rel x v → wp_X6_insert x a1 a2 a3 (fun r x1 => wp_X7_insert v a1 a2 a3 (fun r1 v1 => r = r1 ∧ Rel x1 v1))
set_option maxHeartbeats 4000000 in
set_option maxRecDepth 100000 in
theorem law_case_0 (C : LC p s m meth c D cI b) (hX : va_X b L xs s s.heap) (hbl : b < s.heap.size) (hL : L ≤ 2048) {Rel : zX → zM → Prop} (H : op_insert Rel) {x : zX} {v : zM} (hR : Rel x v) {i : Nat} (hi : i + 4 ≤ L) (hn : ∀ x v, Rel x v → ZLW p l e s m below meth c D cI b gx gm x v 712 [some (.ref b), some (.ref (gx 0)), some (.ref (gm 0)), some (.int (nI i))] []) : ZLW p l e s m below meth c D cI b gx gm x v 136 [some (.ref b), some (.ref (gx 0)), some (.ref (gm 0)), some (.int (nI i))] [] := by
  have hw := H x v (xs (nI i + 1).toNatClampNeg) (xs (nI i + 2).toNatClampNeg) (xs (nI i + 3).toNatClampNeg) hR
  refine z_aload_n C dL_law_136 rfl ?_
  refine z_aload_n C dL_law_137 rfl ?_
  refine z_iload_n C dL_law_138 rfl ?_
  refine z_iconst C dL_law_139 1 (by decide +kernel) ?_
  refine z_iadd C dL_law_140 ?_
  refine z_sld C hX hbl (law_in (j := 1) (by decide +kernel) (by omega) hL) dL_law_141 ?_
  refine z_aload_n C dL_law_142 rfl ?_
  refine z_iload_n C dL_law_143 rfl ?_
  refine z_iconst C dL_law_144 2 (by decide +kernel) ?_
  refine z_iadd C dL_law_145 ?_
  refine z_sld C hX hbl (law_in (j := 2) (by decide +kernel) (by omega) hL) dL_law_146 ?_
  refine z_aload_n C dL_law_147 rfl ?_
  refine z_iload_n C dL_law_148 rfl ?_
  refine z_iconst C dL_law_149 3 (by decide +kernel) ?_
  refine z_iadd C dL_law_150 ?_
  refine z_sld C hX hbl (law_in (j := 3) (by decide +kernel) (by omega) hL) dL_law_151 ?_
  refine z_callV0 C [wX cI gx x] [(wMx cI gm (mS v) (mAside v) (mBefore v) (mText v) (mLetters v) (mBys v) (mFirst v) (mCommand v) (mKnown v) (mLength v) (mLogLong v) (mAreSame v) (mAt v) (mIsWrong v) (mPosition v) (mReason v) (mCause v))] rfl rfl (met_X6_insert l D cI gx x (xs (nI i + 1).toNatClampNeg) (xs (nI i + 2).toNatClampNeg) (xs (nI i + 3).toNatClampNeg) _ hw) y_X6_insert mw_4_23 dL_law_152 rfl n_X6_insert rfl (by decide) ⟨rfl, rfl, Nat.le_of_ble_eq_true rfl, Nat.le_of_ble_eq_true rfl⟩ (Nat.le_of_ble_eq_true rfl) (z_pm [0, 1] 2 rfl (by decide) rfl) ?_
  intro ⟨r, x1⟩ hw
  try dsimp only at hw
  refine z_bs [wX cI gx x1, (wMx cI gm (mS v) (mAside v) (mBefore v) (mText v) (mLetters v) (mBys v) (mFirst v) (mCommand v) (mKnown v) (mLength v) (mLogLong v) (mAreSame v) (mAt v) (mIsWrong v) (mPosition v) (mReason v) (mCause v))] [.int r] rfl rfl ?_
  refine z_aload_n C dL_law_155 rfl ?_
  refine z_aload_n C dL_law_156 rfl ?_
  refine z_iload_n C dL_law_157 rfl ?_
  refine z_iconst C dL_law_158 1 (by decide +kernel) ?_
  refine z_iadd C dL_law_159 ?_
  refine z_sld C hX hbl (law_in (j := 1) (by decide +kernel) (by omega) hL) dL_law_160 ?_
  refine z_aload_n C dL_law_161 rfl ?_
  refine z_iload_n C dL_law_162 rfl ?_
  refine z_iconst C dL_law_163 2 (by decide +kernel) ?_
  refine z_iadd C dL_law_164 ?_
  refine z_sld C hX hbl (law_in (j := 2) (by decide +kernel) (by omega) hL) dL_law_165 ?_
  refine z_aload_n C dL_law_166 rfl ?_
  refine z_iload_n C dL_law_167 rfl ?_
  refine z_iconst C dL_law_168 3 (by decide +kernel) ?_
  refine z_iadd C dL_law_169 ?_
  refine z_sld C hX hbl (law_in (j := 3) (by decide +kernel) (by omega) hL) dL_law_170 ?_
  refine z_callV0 C [(wMx cI gm (mS v) (mAside v) (mBefore v) (mText v) (mLetters v) (mBys v) (mFirst v) (mCommand v) (mKnown v) (mLength v) (mLogLong v) (mAreSame v) (mAt v) (mIsWrong v) (mPosition v) (mReason v) (mCause v))] [wX cI gx x1] rfl rfl (met_X7_insert l D cI gm v (xs (nI i + 1).toNatClampNeg) (xs (nI i + 2).toNatClampNeg) (xs (nI i + 3).toNatClampNeg) _ hw) y_X7_insert mw_11_15 dL_law_171 rfl n_X7_insert rfl (by decide) ⟨rfl, rfl, Nat.le_of_ble_eq_true rfl, Nat.le_of_ble_eq_true rfl⟩ (Nat.le_of_ble_eq_true rfl) (z_pm [1, 0] 2 rfl (by decide) rfl) ?_
  intro ⟨r1, v1⟩ hw
  try dsimp only at hw
  refine z_bs [(wMx cI gm (mS v1) (mAside v1) (mBefore v1) (mText v1) (mLetters v1) (mBys v1) (mFirst v1) (mCommand v1) (mKnown v1) (mLength v1) (mLogLong v1) (mAreSame v1) (mAt v1) (mIsWrong v1) (mPosition v1) (mReason v1) (mCause v1)), wX cI gx x1] [.int r1, .int r] rfl rfl ?_
  refine z_perm C [wX cI gx x1, (wMx cI gm (mS v1) (mAside v1) (mBefore v1) (mText v1) (mLetters v1) (mBys v1) (mFirst v1) (mCommand v1) (mKnown v1) (mLength v1) (mLogLong v1) (mAreSame v1) (mAt v1) (mIsWrong v1) (mPosition v1) (mReason v1) (mCause v1))] (z_pm [1, 0] 2 rfl (by decide) rfl) ?_
  refine z_icmp_eq C dL_law_174 712 (by decide) (fun h1 => ?_) (fun h1 => absurd hw.1 h1)
  exact hn _ _ hw.2
def op_delete (Rel : zX → zM → Prop) : Prop := ∀ (x : zX) (v : zM) (a1 : Int32) (a2 : Int32), Rel x v → wp_X6_delete x a1 a2 (fun r x1 => wp_X7_delete v a1 a2 (fun r1 v1 => r = r1 ∧ Rel x1 v1))
set_option maxHeartbeats 4000000 in
set_option maxRecDepth 100000 in
theorem law_case_1 (C : LC p s m meth c D cI b) (hX : va_X b L xs s s.heap) (hbl : b < s.heap.size) (hL : L ≤ 2048) {Rel : zX → zM → Prop} (H : op_delete Rel) {x : zX} {v : zM} (hR : Rel x v) {i : Nat} (hi : i + 4 ≤ L) (hn : ∀ x v, Rel x v → ZLW p l e s m below meth c D cI b gx gm x v 712 [some (.ref b), some (.ref (gx 0)), some (.ref (gm 0)), some (.int (nI i))] []) : ZLW p l e s m below meth c D cI b gx gm x v 179 [some (.ref b), some (.ref (gx 0)), some (.ref (gm 0)), some (.int (nI i))] [] := by
  have hw := H x v (xs (nI i + 1).toNatClampNeg) (xs (nI i + 2).toNatClampNeg) hR
  refine z_aload_n C dL_law_179 rfl ?_
  refine z_aload_n C dL_law_180 rfl ?_
  refine z_iload_n C dL_law_181 rfl ?_
  refine z_iconst C dL_law_182 1 (by decide +kernel) ?_
  refine z_iadd C dL_law_183 ?_
  refine z_sld C hX hbl (law_in (j := 1) (by decide +kernel) (by omega) hL) dL_law_184 ?_
  refine z_aload_n C dL_law_185 rfl ?_
  refine z_iload_n C dL_law_186 rfl ?_
  refine z_iconst C dL_law_187 2 (by decide +kernel) ?_
  refine z_iadd C dL_law_188 ?_
  refine z_sld C hX hbl (law_in (j := 2) (by decide +kernel) (by omega) hL) dL_law_189 ?_
  refine z_callV0 C [wX cI gx x] [(wMx cI gm (mS v) (mAside v) (mBefore v) (mText v) (mLetters v) (mBys v) (mFirst v) (mCommand v) (mKnown v) (mLength v) (mLogLong v) (mAreSame v) (mAt v) (mIsWrong v) (mPosition v) (mReason v) (mCause v))] rfl rfl (met_X6_delete l D cI gx x (xs (nI i + 1).toNatClampNeg) (xs (nI i + 2).toNatClampNeg) _ hw) y_X6_delete mw_13_23 dL_law_190 rfl n_X6_delete rfl (by decide) ⟨rfl, rfl, Nat.le_of_ble_eq_true rfl, Nat.le_of_ble_eq_true rfl⟩ (Nat.le_of_ble_eq_true rfl) (z_pm [0, 1] 2 rfl (by decide) rfl) ?_
  intro ⟨r, x1⟩ hw
  try dsimp only at hw
  refine z_bs [wX cI gx x1, (wMx cI gm (mS v) (mAside v) (mBefore v) (mText v) (mLetters v) (mBys v) (mFirst v) (mCommand v) (mKnown v) (mLength v) (mLogLong v) (mAreSame v) (mAt v) (mIsWrong v) (mPosition v) (mReason v) (mCause v))] [.int r] rfl rfl ?_
  refine z_aload_n C dL_law_193 rfl ?_
  refine z_aload_n C dL_law_194 rfl ?_
  refine z_iload_n C dL_law_195 rfl ?_
  refine z_iconst C dL_law_196 1 (by decide +kernel) ?_
  refine z_iadd C dL_law_197 ?_
  refine z_sld C hX hbl (law_in (j := 1) (by decide +kernel) (by omega) hL) dL_law_198 ?_
  refine z_aload_n C dL_law_199 rfl ?_
  refine z_iload_n C dL_law_200 rfl ?_
  refine z_iconst C dL_law_201 2 (by decide +kernel) ?_
  refine z_iadd C dL_law_202 ?_
  refine z_sld C hX hbl (law_in (j := 2) (by decide +kernel) (by omega) hL) dL_law_203 ?_
  refine z_callV0 C [(wMx cI gm (mS v) (mAside v) (mBefore v) (mText v) (mLetters v) (mBys v) (mFirst v) (mCommand v) (mKnown v) (mLength v) (mLogLong v) (mAreSame v) (mAt v) (mIsWrong v) (mPosition v) (mReason v) (mCause v))] [wX cI gx x1] rfl rfl (met_X7_delete l D cI gm v (xs (nI i + 1).toNatClampNeg) (xs (nI i + 2).toNatClampNeg) _ hw) y_X7_delete mw_14_3 dL_law_204 rfl n_X7_delete rfl (by decide) ⟨rfl, rfl, Nat.le_of_ble_eq_true rfl, Nat.le_of_ble_eq_true rfl⟩ (Nat.le_of_ble_eq_true rfl) (z_pm [1, 0] 2 rfl (by decide) rfl) ?_
  intro ⟨r1, v1⟩ hw
  try dsimp only at hw
  refine z_bs [(wMx cI gm (mS v1) (mAside v1) (mBefore v1) (mText v1) (mLetters v1) (mBys v1) (mFirst v1) (mCommand v1) (mKnown v1) (mLength v1) (mLogLong v1) (mAreSame v1) (mAt v1) (mIsWrong v1) (mPosition v1) (mReason v1) (mCause v1)), wX cI gx x1] [.int r1, .int r] rfl rfl ?_
  refine z_perm C [wX cI gx x1, (wMx cI gm (mS v1) (mAside v1) (mBefore v1) (mText v1) (mLetters v1) (mBys v1) (mFirst v1) (mCommand v1) (mKnown v1) (mLength v1) (mLogLong v1) (mAreSame v1) (mAt v1) (mIsWrong v1) (mPosition v1) (mReason v1) (mCause v1))] (z_pm [1, 0] 2 rfl (by decide) rfl) ?_
  refine z_icmp_eq C dL_law_207 712 (by decide) (fun h1 => ?_) (fun h1 => absurd hw.1 h1)
  exact hn _ _ hw.2
def op_takeBack (Rel : zX → zM → Prop) : Prop := ∀ (x : zX) (v : zM) (a1 : Int32), Rel x v → wp_X6_takeBack x a1 (fun r x1 => wp_X7_takeBack v a1 (fun r1 v1 => r = r1 ∧ Rel x1 v1))
set_option maxHeartbeats 4000000 in
set_option maxRecDepth 100000 in
theorem law_case_2 (C : LC p s m meth c D cI b) (hX : va_X b L xs s s.heap) (hbl : b < s.heap.size) (hL : L ≤ 2048) {Rel : zX → zM → Prop} (H : op_takeBack Rel) {x : zX} {v : zM} (hR : Rel x v) {i : Nat} (hi : i + 4 ≤ L) (hn : ∀ x v, Rel x v → ZLW p l e s m below meth c D cI b gx gm x v 712 [some (.ref b), some (.ref (gx 0)), some (.ref (gm 0)), some (.int (nI i))] []) : ZLW p l e s m below meth c D cI b gx gm x v 212 [some (.ref b), some (.ref (gx 0)), some (.ref (gm 0)), some (.int (nI i))] [] := by
  have hw := H x v (xs (nI i + 1).toNatClampNeg) hR
  refine z_aload_n C dL_law_212 rfl ?_
  refine z_aload_n C dL_law_213 rfl ?_
  refine z_iload_n C dL_law_214 rfl ?_
  refine z_iconst C dL_law_215 1 (by decide +kernel) ?_
  refine z_iadd C dL_law_216 ?_
  refine z_sld C hX hbl (law_in (j := 1) (by decide +kernel) (by omega) hL) dL_law_217 ?_
  refine z_callV0 C [wX cI gx x] [(wMx cI gm (mS v) (mAside v) (mBefore v) (mText v) (mLetters v) (mBys v) (mFirst v) (mCommand v) (mKnown v) (mLength v) (mLogLong v) (mAreSame v) (mAt v) (mIsWrong v) (mPosition v) (mReason v) (mCause v))] rfl rfl (met_X6_takeBack l D cI gx x (xs (nI i + 1).toNatClampNeg) _ hw) y_X6_takeBack mw_14_15 dL_law_218 rfl n_X6_takeBack rfl (by decide) ⟨rfl, rfl, Nat.le_of_ble_eq_true rfl, Nat.le_of_ble_eq_true rfl⟩ (Nat.le_of_ble_eq_true rfl) (z_pm [0, 1] 2 rfl (by decide) rfl) ?_
  intro ⟨r, x1⟩ hw
  try dsimp only at hw
  refine z_bs [wX cI gx x1, (wMx cI gm (mS v) (mAside v) (mBefore v) (mText v) (mLetters v) (mBys v) (mFirst v) (mCommand v) (mKnown v) (mLength v) (mLogLong v) (mAreSame v) (mAt v) (mIsWrong v) (mPosition v) (mReason v) (mCause v))] [.int r] rfl rfl ?_
  refine z_aload_n C dL_law_221 rfl ?_
  refine z_aload_n C dL_law_222 rfl ?_
  refine z_iload_n C dL_law_223 rfl ?_
  refine z_iconst C dL_law_224 1 (by decide +kernel) ?_
  refine z_iadd C dL_law_225 ?_
  refine z_sld C hX hbl (law_in (j := 1) (by decide +kernel) (by omega) hL) dL_law_226 ?_
  refine z_callV0 C [(wMx cI gm (mS v) (mAside v) (mBefore v) (mText v) (mLetters v) (mBys v) (mFirst v) (mCommand v) (mKnown v) (mLength v) (mLogLong v) (mAreSame v) (mAt v) (mIsWrong v) (mPosition v) (mReason v) (mCause v))] [wX cI gx x1] rfl rfl (met_X7_takeBack l D cI gm v (xs (nI i + 1).toNatClampNeg) _ hw) y_X7_takeBack mw_14_19 dL_law_227 rfl n_X7_takeBack rfl (by decide) ⟨rfl, rfl, Nat.le_of_ble_eq_true rfl, Nat.le_of_ble_eq_true rfl⟩ (Nat.le_of_ble_eq_true rfl) (z_pm [1, 0] 2 rfl (by decide) rfl) ?_
  intro ⟨r1, v1⟩ hw
  try dsimp only at hw
  refine z_bs [(wMx cI gm (mS v1) (mAside v1) (mBefore v1) (mText v1) (mLetters v1) (mBys v1) (mFirst v1) (mCommand v1) (mKnown v1) (mLength v1) (mLogLong v1) (mAreSame v1) (mAt v1) (mIsWrong v1) (mPosition v1) (mReason v1) (mCause v1)), wX cI gx x1] [.int r1, .int r] rfl rfl ?_
  refine z_perm C [wX cI gx x1, (wMx cI gm (mS v1) (mAside v1) (mBefore v1) (mText v1) (mLetters v1) (mBys v1) (mFirst v1) (mCommand v1) (mKnown v1) (mLength v1) (mLogLong v1) (mAreSame v1) (mAt v1) (mIsWrong v1) (mPosition v1) (mReason v1) (mCause v1))] (z_pm [1, 0] 2 rfl (by decide) rfl) ?_
  refine z_icmp_eq C dL_law_230 712 (by decide) (fun h1 => ?_) (fun h1 => absurd hw.1 h1)
  exact hn _ _ hw.2
def op_mark (Rel : zX → zM → Prop) : Prop := ∀ (x : zX) (v : zM) (a1 : Int32) (a2 : Int32), Rel x v → wp_X6_mark x a1 a2 (fun r x1 => wp_X7_mark v a1 a2 (fun r1 v1 => r = r1 ∧ Rel x1 v1))
set_option maxHeartbeats 4000000 in
set_option maxRecDepth 100000 in
theorem law_case_3 (C : LC p s m meth c D cI b) (hX : va_X b L xs s s.heap) (hbl : b < s.heap.size) (hL : L ≤ 2048) {Rel : zX → zM → Prop} (H : op_mark Rel) {x : zX} {v : zM} (hR : Rel x v) {i : Nat} (hi : i + 4 ≤ L) (hn : ∀ x v, Rel x v → ZLW p l e s m below meth c D cI b gx gm x v 712 [some (.ref b), some (.ref (gx 0)), some (.ref (gm 0)), some (.int (nI i))] []) : ZLW p l e s m below meth c D cI b gx gm x v 235 [some (.ref b), some (.ref (gx 0)), some (.ref (gm 0)), some (.int (nI i))] [] := by
  have hw := H x v (xs (nI i + 1).toNatClampNeg) (xs (nI i + 2).toNatClampNeg) hR
  refine z_aload_n C dL_law_235 rfl ?_
  refine z_aload_n C dL_law_236 rfl ?_
  refine z_iload_n C dL_law_237 rfl ?_
  refine z_iconst C dL_law_238 1 (by decide +kernel) ?_
  refine z_iadd C dL_law_239 ?_
  refine z_sld C hX hbl (law_in (j := 1) (by decide +kernel) (by omega) hL) dL_law_240 ?_
  refine z_aload_n C dL_law_241 rfl ?_
  refine z_iload_n C dL_law_242 rfl ?_
  refine z_iconst C dL_law_243 2 (by decide +kernel) ?_
  refine z_iadd C dL_law_244 ?_
  refine z_sld C hX hbl (law_in (j := 2) (by decide +kernel) (by omega) hL) dL_law_245 ?_
  refine z_callV0 C [wX cI gx x] [(wMx cI gm (mS v) (mAside v) (mBefore v) (mText v) (mLetters v) (mBys v) (mFirst v) (mCommand v) (mKnown v) (mLength v) (mLogLong v) (mAreSame v) (mAt v) (mIsWrong v) (mPosition v) (mReason v) (mCause v))] rfl rfl (met_X6_mark l D cI gx x (xs (nI i + 1).toNatClampNeg) (xs (nI i + 2).toNatClampNeg) _ hw) y_X6_mark mw_15_7 dL_law_246 rfl n_X6_mark rfl (by decide) ⟨rfl, rfl, Nat.le_of_ble_eq_true rfl, Nat.le_of_ble_eq_true rfl⟩ (Nat.le_of_ble_eq_true rfl) (z_pm [0, 1] 2 rfl (by decide) rfl) ?_
  intro ⟨r, x1⟩ hw
  try dsimp only at hw
  refine z_bs [wX cI gx x1, (wMx cI gm (mS v) (mAside v) (mBefore v) (mText v) (mLetters v) (mBys v) (mFirst v) (mCommand v) (mKnown v) (mLength v) (mLogLong v) (mAreSame v) (mAt v) (mIsWrong v) (mPosition v) (mReason v) (mCause v))] [.int r] rfl rfl ?_
  refine z_aload_n C dL_law_249 rfl ?_
  refine z_aload_n C dL_law_250 rfl ?_
  refine z_iload_n C dL_law_251 rfl ?_
  refine z_iconst C dL_law_252 1 (by decide +kernel) ?_
  refine z_iadd C dL_law_253 ?_
  refine z_sld C hX hbl (law_in (j := 1) (by decide +kernel) (by omega) hL) dL_law_254 ?_
  refine z_aload_n C dL_law_255 rfl ?_
  refine z_iload_n C dL_law_256 rfl ?_
  refine z_iconst C dL_law_257 2 (by decide +kernel) ?_
  refine z_iadd C dL_law_258 ?_
  refine z_sld C hX hbl (law_in (j := 2) (by decide +kernel) (by omega) hL) dL_law_259 ?_
  refine z_callV0 C [(wMx cI gm (mS v) (mAside v) (mBefore v) (mText v) (mLetters v) (mBys v) (mFirst v) (mCommand v) (mKnown v) (mLength v) (mLogLong v) (mAreSame v) (mAt v) (mIsWrong v) (mPosition v) (mReason v) (mCause v))] [wX cI gx x1] rfl rfl (met_X7_mark l D cI gm v (xs (nI i + 1).toNatClampNeg) (xs (nI i + 2).toNatClampNeg) _ hw) y_X7_mark mw_15_11 dL_law_260 rfl n_X7_mark rfl (by decide) ⟨rfl, rfl, Nat.le_of_ble_eq_true rfl, Nat.le_of_ble_eq_true rfl⟩ (Nat.le_of_ble_eq_true rfl) (z_pm [1, 0] 2 rfl (by decide) rfl) ?_
  intro ⟨r1, v1⟩ hw
  try dsimp only at hw
  refine z_bs [(wMx cI gm (mS v1) (mAside v1) (mBefore v1) (mText v1) (mLetters v1) (mBys v1) (mFirst v1) (mCommand v1) (mKnown v1) (mLength v1) (mLogLong v1) (mAreSame v1) (mAt v1) (mIsWrong v1) (mPosition v1) (mReason v1) (mCause v1)), wX cI gx x1] [.int r1, .int r] rfl rfl ?_
  refine z_perm C [wX cI gx x1, (wMx cI gm (mS v1) (mAside v1) (mBefore v1) (mText v1) (mLetters v1) (mBys v1) (mFirst v1) (mCommand v1) (mKnown v1) (mLength v1) (mLogLong v1) (mAreSame v1) (mAt v1) (mIsWrong v1) (mPosition v1) (mReason v1) (mCause v1))] (z_pm [1, 0] 2 rfl (by decide) rfl) ?_
  refine z_icmp_eq C dL_law_263 712 (by decide) (fun h1 => ?_) (fun h1 => absurd hw.1 h1)
  exact hn _ _ hw.2
def op_send (Rel : zX → zM → Prop) : Prop := ∀ (x : zX) (v : zM) (a1 : Int32), Rel x v → wp_X6_send x a1 (fun r x1 => wp_X7_send v a1 (fun r1 v1 => r = r1 ∧ Rel x1 v1))
set_option maxHeartbeats 4000000 in
set_option maxRecDepth 100000 in
theorem law_case_4 (C : LC p s m meth c D cI b) (hX : va_X b L xs s s.heap) (hbl : b < s.heap.size) (hL : L ≤ 2048) {Rel : zX → zM → Prop} (H : op_send Rel) {x : zX} {v : zM} (hR : Rel x v) {i : Nat} (hi : i + 4 ≤ L) (hn : ∀ x v, Rel x v → ZLW p l e s m below meth c D cI b gx gm x v 712 [some (.ref b), some (.ref (gx 0)), some (.ref (gm 0)), some (.int (nI i))] []) : ZLW p l e s m below meth c D cI b gx gm x v 268 [some (.ref b), some (.ref (gx 0)), some (.ref (gm 0)), some (.int (nI i))] [] := by
  have hw := H x v (xs (nI i + 1).toNatClampNeg) hR
  refine z_aload_n C dL_law_268 rfl ?_
  refine z_aload_n C dL_law_269 rfl ?_
  refine z_iload_n C dL_law_270 rfl ?_
  refine z_iconst C dL_law_271 1 (by decide +kernel) ?_
  refine z_iadd C dL_law_272 ?_
  refine z_sld C hX hbl (law_in (j := 1) (by decide +kernel) (by omega) hL) dL_law_273 ?_
  refine z_callV0 C [wX cI gx x] [(wMx cI gm (mS v) (mAside v) (mBefore v) (mText v) (mLetters v) (mBys v) (mFirst v) (mCommand v) (mKnown v) (mLength v) (mLogLong v) (mAreSame v) (mAt v) (mIsWrong v) (mPosition v) (mReason v) (mCause v))] rfl rfl (met_X6_send l D cI gx x (xs (nI i + 1).toNatClampNeg) _ hw) y_X6_send mw_15_15 dL_law_274 rfl n_X6_send rfl (by decide) ⟨rfl, rfl, Nat.le_of_ble_eq_true rfl, Nat.le_of_ble_eq_true rfl⟩ (Nat.le_of_ble_eq_true rfl) (z_pm [0, 1] 2 rfl (by decide) rfl) ?_
  intro ⟨r, x1⟩ hw
  try dsimp only at hw
  refine z_bs [wX cI gx x1, (wMx cI gm (mS v) (mAside v) (mBefore v) (mText v) (mLetters v) (mBys v) (mFirst v) (mCommand v) (mKnown v) (mLength v) (mLogLong v) (mAreSame v) (mAt v) (mIsWrong v) (mPosition v) (mReason v) (mCause v))] [.int r] rfl rfl ?_
  refine z_aload_n C dL_law_277 rfl ?_
  refine z_aload_n C dL_law_278 rfl ?_
  refine z_iload_n C dL_law_279 rfl ?_
  refine z_iconst C dL_law_280 1 (by decide +kernel) ?_
  refine z_iadd C dL_law_281 ?_
  refine z_sld C hX hbl (law_in (j := 1) (by decide +kernel) (by omega) hL) dL_law_282 ?_
  refine z_callV0 C [(wMx cI gm (mS v) (mAside v) (mBefore v) (mText v) (mLetters v) (mBys v) (mFirst v) (mCommand v) (mKnown v) (mLength v) (mLogLong v) (mAreSame v) (mAt v) (mIsWrong v) (mPosition v) (mReason v) (mCause v))] [wX cI gx x1] rfl rfl (met_X7_send l D cI gm v (xs (nI i + 1).toNatClampNeg) _ hw) y_X7_send mw_15_19 dL_law_283 rfl n_X7_send rfl (by decide) ⟨rfl, rfl, Nat.le_of_ble_eq_true rfl, Nat.le_of_ble_eq_true rfl⟩ (Nat.le_of_ble_eq_true rfl) (z_pm [1, 0] 2 rfl (by decide) rfl) ?_
  intro ⟨r1, v1⟩ hw
  try dsimp only at hw
  refine z_bs [(wMx cI gm (mS v1) (mAside v1) (mBefore v1) (mText v1) (mLetters v1) (mBys v1) (mFirst v1) (mCommand v1) (mKnown v1) (mLength v1) (mLogLong v1) (mAreSame v1) (mAt v1) (mIsWrong v1) (mPosition v1) (mReason v1) (mCause v1)), wX cI gx x1] [.int r1, .int r] rfl rfl ?_
  refine z_perm C [wX cI gx x1, (wMx cI gm (mS v1) (mAside v1) (mBefore v1) (mText v1) (mLetters v1) (mBys v1) (mFirst v1) (mCommand v1) (mKnown v1) (mLength v1) (mLogLong v1) (mAreSame v1) (mAt v1) (mIsWrong v1) (mPosition v1) (mReason v1) (mCause v1))] (z_pm [1, 0] 2 rfl (by decide) rfl) ?_
  refine z_icmp_eq C dL_law_286 712 (by decide) (fun h1 => ?_) (fun h1 => absurd hw.1 h1)
  exact hn _ _ hw.2
def op_hear (Rel : zX → zM → Prop) : Prop := ∀ (x : zX) (v : zM) (a1 : Int32), Rel x v → wp_X6_hear x a1 (fun r x1 => wp_X7_hear v a1 (fun r1 v1 => r = r1 ∧ Rel x1 v1))
set_option maxHeartbeats 4000000 in
set_option maxRecDepth 100000 in
theorem law_case_5 (C : LC p s m meth c D cI b) (hX : va_X b L xs s s.heap) (hbl : b < s.heap.size) (hL : L ≤ 2048) {Rel : zX → zM → Prop} (H : op_hear Rel) {x : zX} {v : zM} (hR : Rel x v) {i : Nat} (hi : i + 4 ≤ L) (hn : ∀ x v, Rel x v → ZLW p l e s m below meth c D cI b gx gm x v 712 [some (.ref b), some (.ref (gx 0)), some (.ref (gm 0)), some (.int (nI i))] []) : ZLW p l e s m below meth c D cI b gx gm x v 291 [some (.ref b), some (.ref (gx 0)), some (.ref (gm 0)), some (.int (nI i))] [] := by
  have hw := H x v (xs (nI i + 1).toNatClampNeg) hR
  refine z_aload_n C dL_law_291 rfl ?_
  refine z_aload_n C dL_law_292 rfl ?_
  refine z_iload_n C dL_law_293 rfl ?_
  refine z_iconst C dL_law_294 1 (by decide +kernel) ?_
  refine z_iadd C dL_law_295 ?_
  refine z_sld C hX hbl (law_in (j := 1) (by decide +kernel) (by omega) hL) dL_law_296 ?_
  refine z_callV0 C [wX cI gx x] [(wMx cI gm (mS v) (mAside v) (mBefore v) (mText v) (mLetters v) (mBys v) (mFirst v) (mCommand v) (mKnown v) (mLength v) (mLogLong v) (mAreSame v) (mAt v) (mIsWrong v) (mPosition v) (mReason v) (mCause v))] rfl rfl (met_X6_hear l D cI gx x (xs (nI i + 1).toNatClampNeg) _ hw) y_X6_hear mw_16_15 dL_law_297 rfl n_X6_hear rfl (by decide) ⟨rfl, rfl, Nat.le_of_ble_eq_true rfl, Nat.le_of_ble_eq_true rfl⟩ (Nat.le_of_ble_eq_true rfl) (z_pm [0, 1] 2 rfl (by decide) rfl) ?_
  intro ⟨r, x1⟩ hw
  try dsimp only at hw
  refine z_bs [wX cI gx x1, (wMx cI gm (mS v) (mAside v) (mBefore v) (mText v) (mLetters v) (mBys v) (mFirst v) (mCommand v) (mKnown v) (mLength v) (mLogLong v) (mAreSame v) (mAt v) (mIsWrong v) (mPosition v) (mReason v) (mCause v))] [.int r] rfl rfl ?_
  refine z_aload_n C dL_law_300 rfl ?_
  refine z_aload_n C dL_law_301 rfl ?_
  refine z_iload_n C dL_law_302 rfl ?_
  refine z_iconst C dL_law_303 1 (by decide +kernel) ?_
  refine z_iadd C dL_law_304 ?_
  refine z_sld C hX hbl (law_in (j := 1) (by decide +kernel) (by omega) hL) dL_law_305 ?_
  refine z_callV0 C [(wMx cI gm (mS v) (mAside v) (mBefore v) (mText v) (mLetters v) (mBys v) (mFirst v) (mCommand v) (mKnown v) (mLength v) (mLogLong v) (mAreSame v) (mAt v) (mIsWrong v) (mPosition v) (mReason v) (mCause v))] [wX cI gx x1] rfl rfl (met_X7_hear l D cI gm v (xs (nI i + 1).toNatClampNeg) _ hw) y_X7_hear mw_16_19 dL_law_306 rfl n_X7_hear rfl (by decide) ⟨rfl, rfl, Nat.le_of_ble_eq_true rfl, Nat.le_of_ble_eq_true rfl⟩ (Nat.le_of_ble_eq_true rfl) (z_pm [1, 0] 2 rfl (by decide) rfl) ?_
  intro ⟨r1, v1⟩ hw
  try dsimp only at hw
  refine z_bs [(wMx cI gm (mS v1) (mAside v1) (mBefore v1) (mText v1) (mLetters v1) (mBys v1) (mFirst v1) (mCommand v1) (mKnown v1) (mLength v1) (mLogLong v1) (mAreSame v1) (mAt v1) (mIsWrong v1) (mPosition v1) (mReason v1) (mCause v1)), wX cI gx x1] [.int r1, .int r] rfl rfl ?_
  refine z_perm C [wX cI gx x1, (wMx cI gm (mS v1) (mAside v1) (mBefore v1) (mText v1) (mLetters v1) (mBys v1) (mFirst v1) (mCommand v1) (mKnown v1) (mLength v1) (mLogLong v1) (mAreSame v1) (mAt v1) (mIsWrong v1) (mPosition v1) (mReason v1) (mCause v1))] (z_pm [1, 0] 2 rfl (by decide) rfl) ?_
  refine z_icmp_eq C dL_law_309 712 (by decide) (fun h1 => ?_) (fun h1 => absurd hw.1 h1)
  exact hn _ _ hw.2
def op_hearAll (Rel : zX → zM → Prop) : Prop := ∀ (x : zX) (v : zM) (a1 : Int32), Rel x v → wp_X6_hearAll x a1 (fun r x1 => wp_X7_hearAll v a1 (fun r1 v1 => r = r1 ∧ Rel x1 v1))
set_option maxHeartbeats 4000000 in
set_option maxRecDepth 100000 in
theorem law_case_6 (C : LC p s m meth c D cI b) (hX : va_X b L xs s s.heap) (hbl : b < s.heap.size) (hL : L ≤ 2048) {Rel : zX → zM → Prop} (H : op_hearAll Rel) {x : zX} {v : zM} (hR : Rel x v) {i : Nat} (hi : i + 4 ≤ L) (hn : ∀ x v, Rel x v → ZLW p l e s m below meth c D cI b gx gm x v 712 [some (.ref b), some (.ref (gx 0)), some (.ref (gm 0)), some (.int (nI i))] []) : ZLW p l e s m below meth c D cI b gx gm x v 314 [some (.ref b), some (.ref (gx 0)), some (.ref (gm 0)), some (.int (nI i))] [] := by
  have hw := H x v (xs (nI i + 1).toNatClampNeg) hR
  refine z_aload_n C dL_law_314 rfl ?_
  refine z_aload_n C dL_law_315 rfl ?_
  refine z_iload_n C dL_law_316 rfl ?_
  refine z_iconst C dL_law_317 1 (by decide +kernel) ?_
  refine z_iadd C dL_law_318 ?_
  refine z_sld C hX hbl (law_in (j := 1) (by decide +kernel) (by omega) hL) dL_law_319 ?_
  refine z_callV0 C [wX cI gx x] [(wMx cI gm (mS v) (mAside v) (mBefore v) (mText v) (mLetters v) (mBys v) (mFirst v) (mCommand v) (mKnown v) (mLength v) (mLogLong v) (mAreSame v) (mAt v) (mIsWrong v) (mPosition v) (mReason v) (mCause v))] rfl rfl (met_X6_hearAll l D cI gx x (xs (nI i + 1).toNatClampNeg) _ hw) y_X6_hearAll mw_17_7 dL_law_320 rfl n_X6_hearAll rfl (by decide) ⟨rfl, rfl, Nat.le_of_ble_eq_true rfl, Nat.le_of_ble_eq_true rfl⟩ (Nat.le_of_ble_eq_true rfl) (z_pm [0, 1] 2 rfl (by decide) rfl) ?_
  intro ⟨r, x1⟩ hw
  try dsimp only at hw
  refine z_bs [wX cI gx x1, (wMx cI gm (mS v) (mAside v) (mBefore v) (mText v) (mLetters v) (mBys v) (mFirst v) (mCommand v) (mKnown v) (mLength v) (mLogLong v) (mAreSame v) (mAt v) (mIsWrong v) (mPosition v) (mReason v) (mCause v))] [.int r] rfl rfl ?_
  refine z_aload_n C dL_law_323 rfl ?_
  refine z_aload_n C dL_law_324 rfl ?_
  refine z_iload_n C dL_law_325 rfl ?_
  refine z_iconst C dL_law_326 1 (by decide +kernel) ?_
  refine z_iadd C dL_law_327 ?_
  refine z_sld C hX hbl (law_in (j := 1) (by decide +kernel) (by omega) hL) dL_law_328 ?_
  refine z_callV0 C [(wMx cI gm (mS v) (mAside v) (mBefore v) (mText v) (mLetters v) (mBys v) (mFirst v) (mCommand v) (mKnown v) (mLength v) (mLogLong v) (mAreSame v) (mAt v) (mIsWrong v) (mPosition v) (mReason v) (mCause v))] [wX cI gx x1] rfl rfl (met_X7_hearAll l D cI gm v (xs (nI i + 1).toNatClampNeg) _ hw) y_X7_hearAll mw_17_11 dL_law_329 rfl n_X7_hearAll rfl (by decide) ⟨rfl, rfl, Nat.le_of_ble_eq_true rfl, Nat.le_of_ble_eq_true rfl⟩ (Nat.le_of_ble_eq_true rfl) (z_pm [1, 0] 2 rfl (by decide) rfl) ?_
  intro ⟨r1, v1⟩ hw
  try dsimp only at hw
  refine z_bs [(wMx cI gm (mS v1) (mAside v1) (mBefore v1) (mText v1) (mLetters v1) (mBys v1) (mFirst v1) (mCommand v1) (mKnown v1) (mLength v1) (mLogLong v1) (mAreSame v1) (mAt v1) (mIsWrong v1) (mPosition v1) (mReason v1) (mCause v1)), wX cI gx x1] [.int r1, .int r] rfl rfl ?_
  refine z_perm C [wX cI gx x1, (wMx cI gm (mS v1) (mAside v1) (mBefore v1) (mText v1) (mLetters v1) (mBys v1) (mFirst v1) (mCommand v1) (mKnown v1) (mLength v1) (mLogLong v1) (mAreSame v1) (mAt v1) (mIsWrong v1) (mPosition v1) (mReason v1) (mCause v1))] (z_pm [1, 0] 2 rfl (by decide) rfl) ?_
  refine z_icmp_eq C dL_law_332 712 (by decide) (fun h1 => ?_) (fun h1 => absurd hw.1 h1)
  exact hn _ _ hw.2
def op_clear (Rel : zX → zM → Prop) : Prop := ∀ (x : zX) (v : zM), Rel x v → wp_X6_clear x  (fun r x1 => wp_X7_clear v  (fun r1 v1 => r = r1 ∧ Rel x1 v1))
set_option maxHeartbeats 4000000 in
set_option maxRecDepth 100000 in
theorem law_case_7 (C : LC p s m meth c D cI b) (hX : va_X b L xs s s.heap) (hbl : b < s.heap.size) (hL : L ≤ 2048) {Rel : zX → zM → Prop} (H : op_clear Rel) {x : zX} {v : zM} (hR : Rel x v) {i : Nat} (hi : i + 4 ≤ L) (hn : ∀ x v, Rel x v → ZLW p l e s m below meth c D cI b gx gm x v 712 [some (.ref b), some (.ref (gx 0)), some (.ref (gm 0)), some (.int (nI i))] []) : ZLW p l e s m below meth c D cI b gx gm x v 337 [some (.ref b), some (.ref (gx 0)), some (.ref (gm 0)), some (.int (nI i))] [] := by
  have hw := H x v  hR
  refine z_aload_n C dL_law_337 rfl ?_
  refine z_callV0 C [wX cI gx x] [(wMx cI gm (mS v) (mAside v) (mBefore v) (mText v) (mLetters v) (mBys v) (mFirst v) (mCommand v) (mKnown v) (mLength v) (mLogLong v) (mAreSame v) (mAt v) (mIsWrong v) (mPosition v) (mReason v) (mCause v))] rfl rfl (met_X6_clear l D cI gx x  _ hw) y_X6_clear mw_17_19 dL_law_338 rfl n_X6_clear rfl (by decide) ⟨rfl, rfl, Nat.le_of_ble_eq_true rfl, Nat.le_of_ble_eq_true rfl⟩ (Nat.le_of_ble_eq_true rfl) (z_pm [0, 1] 2 rfl (by decide) rfl) ?_
  intro ⟨r, x1⟩ hw
  try dsimp only at hw
  refine z_bs [wX cI gx x1, (wMx cI gm (mS v) (mAside v) (mBefore v) (mText v) (mLetters v) (mBys v) (mFirst v) (mCommand v) (mKnown v) (mLength v) (mLogLong v) (mAreSame v) (mAt v) (mIsWrong v) (mPosition v) (mReason v) (mCause v))] [.int r] rfl rfl ?_
  refine z_aload_n C dL_law_341 rfl ?_
  refine z_callV0 C [(wMx cI gm (mS v) (mAside v) (mBefore v) (mText v) (mLetters v) (mBys v) (mFirst v) (mCommand v) (mKnown v) (mLength v) (mLogLong v) (mAreSame v) (mAt v) (mIsWrong v) (mPosition v) (mReason v) (mCause v))] [wX cI gx x1] rfl rfl (met_X7_clear l D cI gm v  _ hw) y_X7_clear mw_18_13 dL_law_342 rfl n_X7_clear rfl (by decide) ⟨rfl, rfl, Nat.le_of_ble_eq_true rfl, Nat.le_of_ble_eq_true rfl⟩ (Nat.le_of_ble_eq_true rfl) (z_pm [1, 0] 2 rfl (by decide) rfl) ?_
  intro ⟨r1, v1⟩ hw
  try dsimp only at hw
  refine z_bs [(wMx cI gm (mS v1) (mAside v1) (mBefore v1) (mText v1) (mLetters v1) (mBys v1) (mFirst v1) (mCommand v1) (mKnown v1) (mLength v1) (mLogLong v1) (mAreSame v1) (mAt v1) (mIsWrong v1) (mPosition v1) (mReason v1) (mCause v1)), wX cI gx x1] [.int r1, .int r] rfl rfl ?_
  refine z_perm C [wX cI gx x1, (wMx cI gm (mS v1) (mAside v1) (mBefore v1) (mText v1) (mLetters v1) (mBys v1) (mFirst v1) (mCommand v1) (mKnown v1) (mLength v1) (mLogLong v1) (mAreSame v1) (mAt v1) (mIsWrong v1) (mPosition v1) (mReason v1) (mCause v1))] (z_pm [1, 0] 2 rfl (by decide) rfl) ?_
  refine z_icmp_eq C dL_law_345 712 (by decide) (fun h1 => ?_) (fun h1 => absurd hw.1 h1)
  exact hn _ _ hw.2
def op_letter (Rel : zX → zM → Prop) : Prop := ∀ (x : zX) (v : zM) (a1 : Int32) (a2 : Int32), Rel x v → wp_X6_letter x a1 a2 (fun r => wp_X7_letter v a1 a2 (fun r1 v1 => r = r1 ∧ Rel x v1))
set_option maxHeartbeats 4000000 in
set_option maxRecDepth 100000 in
theorem law_case_8 (C : LC p s m meth c D cI b) (hX : va_X b L xs s s.heap) (hbl : b < s.heap.size) (hL : L ≤ 2048) {Rel : zX → zM → Prop} (H : op_letter Rel) {x : zX} {v : zM} (hR : Rel x v) {i : Nat} (hi : i + 4 ≤ L) (hn : ∀ x v, Rel x v → ZLW p l e s m below meth c D cI b gx gm x v 712 [some (.ref b), some (.ref (gx 0)), some (.ref (gm 0)), some (.int (nI i))] []) : ZLW p l e s m below meth c D cI b gx gm x v 350 [some (.ref b), some (.ref (gx 0)), some (.ref (gm 0)), some (.int (nI i))] [] := by
  have hw := H x v (xs (nI i + 1).toNatClampNeg) (xs (nI i + 2).toNatClampNeg) hR
  refine z_aload_n C dL_law_350 rfl ?_
  refine z_aload_n C dL_law_351 rfl ?_
  refine z_iload_n C dL_law_352 rfl ?_
  refine z_iconst C dL_law_353 1 (by decide +kernel) ?_
  refine z_iadd C dL_law_354 ?_
  refine z_sld C hX hbl (law_in (j := 1) (by decide +kernel) (by omega) hL) dL_law_355 ?_
  refine z_aload_n C dL_law_356 rfl ?_
  refine z_iload_n C dL_law_357 rfl ?_
  refine z_iconst C dL_law_358 2 (by decide +kernel) ?_
  refine z_iadd C dL_law_359 ?_
  refine z_sld C hX hbl (law_in (j := 2) (by decide +kernel) (by omega) hL) dL_law_360 ?_
  refine z_callV0 C [wX cI gx x] [(wMx cI gm (mS v) (mAside v) (mBefore v) (mText v) (mLetters v) (mBys v) (mFirst v) (mCommand v) (mKnown v) (mLength v) (mLogLong v) (mAreSame v) (mAt v) (mIsWrong v) (mPosition v) (mReason v) (mCause v))] rfl rfl (met_X6_letter l D cI gx x (xs (nI i + 1).toNatClampNeg) (xs (nI i + 2).toNatClampNeg) _ hw) y_X6_letter mw_18_17 dL_law_361 rfl n_X6_letter rfl (by decide) ⟨rfl, rfl, Nat.le_of_ble_eq_true rfl, Nat.le_of_ble_eq_true rfl⟩ (Nat.le_of_ble_eq_true rfl) (z_pm [0, 1] 2 rfl (by decide) rfl) ?_
  intro r hw
  try dsimp only at hw
  refine z_bs [wX cI gx x, (wMx cI gm (mS v) (mAside v) (mBefore v) (mText v) (mLetters v) (mBys v) (mFirst v) (mCommand v) (mKnown v) (mLength v) (mLogLong v) (mAreSame v) (mAt v) (mIsWrong v) (mPosition v) (mReason v) (mCause v))] [.int r] rfl rfl ?_
  refine z_aload_n C dL_law_364 rfl ?_
  refine z_aload_n C dL_law_365 rfl ?_
  refine z_iload_n C dL_law_366 rfl ?_
  refine z_iconst C dL_law_367 1 (by decide +kernel) ?_
  refine z_iadd C dL_law_368 ?_
  refine z_sld C hX hbl (law_in (j := 1) (by decide +kernel) (by omega) hL) dL_law_369 ?_
  refine z_aload_n C dL_law_370 rfl ?_
  refine z_iload_n C dL_law_371 rfl ?_
  refine z_iconst C dL_law_372 2 (by decide +kernel) ?_
  refine z_iadd C dL_law_373 ?_
  refine z_sld C hX hbl (law_in (j := 2) (by decide +kernel) (by omega) hL) dL_law_374 ?_
  refine z_callV0 C [(wMx cI gm (mS v) (mAside v) (mBefore v) (mText v) (mLetters v) (mBys v) (mFirst v) (mCommand v) (mKnown v) (mLength v) (mLogLong v) (mAreSame v) (mAt v) (mIsWrong v) (mPosition v) (mReason v) (mCause v))] [wX cI gx x] rfl rfl (met_X7_letter l D cI gm v (xs (nI i + 1).toNatClampNeg) (xs (nI i + 2).toNatClampNeg) _ hw) y_X7_letter mw_19_0 dL_law_375 rfl n_X7_letter rfl (by decide) ⟨rfl, rfl, Nat.le_of_ble_eq_true rfl, Nat.le_of_ble_eq_true rfl⟩ (Nat.le_of_ble_eq_true rfl) (z_pm [1, 0] 2 rfl (by decide) rfl) ?_
  intro ⟨r1, v1⟩ hw
  try dsimp only at hw
  refine z_bs [(wMx cI gm (mS v1) (mAside v1) (mBefore v1) (mText v1) (mLetters v1) (mBys v1) (mFirst v1) (mCommand v1) (mKnown v1) (mLength v1) (mLogLong v1) (mAreSame v1) (mAt v1) (mIsWrong v1) (mPosition v1) (mReason v1) (mCause v1)), wX cI gx x] [.int r1, .int r] rfl rfl ?_
  refine z_perm C [wX cI gx x, (wMx cI gm (mS v1) (mAside v1) (mBefore v1) (mText v1) (mLetters v1) (mBys v1) (mFirst v1) (mCommand v1) (mKnown v1) (mLength v1) (mLogLong v1) (mAreSame v1) (mAt v1) (mIsWrong v1) (mPosition v1) (mReason v1) (mCause v1))] (z_pm [1, 0] 2 rfl (by decide) rfl) ?_
  refine z_icmp_eq C dL_law_378 712 (by decide) (fun h1 => ?_) (fun h1 => absurd hw.1 h1)
  exact hn _ _ hw.2
def op_editorOf (Rel : zX → zM → Prop) : Prop := ∀ (x : zX) (v : zM) (a1 : Int32) (a2 : Int32), Rel x v → wp_X6_editorOf x a1 a2 (fun r => wp_X7_editorOf v a1 a2 (fun r1 v1 => r = r1 ∧ Rel x v1))
set_option maxHeartbeats 4000000 in
set_option maxRecDepth 100000 in
theorem law_case_9 (C : LC p s m meth c D cI b) (hX : va_X b L xs s s.heap) (hbl : b < s.heap.size) (hL : L ≤ 2048) {Rel : zX → zM → Prop} (H : op_editorOf Rel) {x : zX} {v : zM} (hR : Rel x v) {i : Nat} (hi : i + 4 ≤ L) (hn : ∀ x v, Rel x v → ZLW p l e s m below meth c D cI b gx gm x v 712 [some (.ref b), some (.ref (gx 0)), some (.ref (gm 0)), some (.int (nI i))] []) : ZLW p l e s m below meth c D cI b gx gm x v 383 [some (.ref b), some (.ref (gx 0)), some (.ref (gm 0)), some (.int (nI i))] [] := by
  have hw := H x v (xs (nI i + 1).toNatClampNeg) (xs (nI i + 2).toNatClampNeg) hR
  refine z_aload_n C dL_law_383 rfl ?_
  refine z_aload_n C dL_law_384 rfl ?_
  refine z_iload_n C dL_law_385 rfl ?_
  refine z_iconst C dL_law_386 1 (by decide +kernel) ?_
  refine z_iadd C dL_law_387 ?_
  refine z_sld C hX hbl (law_in (j := 1) (by decide +kernel) (by omega) hL) dL_law_388 ?_
  refine z_aload_n C dL_law_389 rfl ?_
  refine z_iload_n C dL_law_390 rfl ?_
  refine z_iconst C dL_law_391 2 (by decide +kernel) ?_
  refine z_iadd C dL_law_392 ?_
  refine z_sld C hX hbl (law_in (j := 2) (by decide +kernel) (by omega) hL) dL_law_393 ?_
  refine z_callV0 C [wX cI gx x] [(wMx cI gm (mS v) (mAside v) (mBefore v) (mText v) (mLetters v) (mBys v) (mFirst v) (mCommand v) (mKnown v) (mLength v) (mLogLong v) (mAreSame v) (mAt v) (mIsWrong v) (mPosition v) (mReason v) (mCause v))] rfl rfl (met_X6_editorOf l D cI gx x (xs (nI i + 1).toNatClampNeg) (xs (nI i + 2).toNatClampNeg) _ hw) y_X6_editorOf mw_19_9 dL_law_394 rfl n_X6_editorOf rfl (by decide) ⟨rfl, rfl, Nat.le_of_ble_eq_true rfl, Nat.le_of_ble_eq_true rfl⟩ (Nat.le_of_ble_eq_true rfl) (z_pm [0, 1] 2 rfl (by decide) rfl) ?_
  intro r hw
  try dsimp only at hw
  refine z_bs [wX cI gx x, (wMx cI gm (mS v) (mAside v) (mBefore v) (mText v) (mLetters v) (mBys v) (mFirst v) (mCommand v) (mKnown v) (mLength v) (mLogLong v) (mAreSame v) (mAt v) (mIsWrong v) (mPosition v) (mReason v) (mCause v))] [.int r] rfl rfl ?_
  refine z_aload_n C dL_law_397 rfl ?_
  refine z_aload_n C dL_law_398 rfl ?_
  refine z_iload_n C dL_law_399 rfl ?_
  refine z_iconst C dL_law_400 1 (by decide +kernel) ?_
  refine z_iadd C dL_law_401 ?_
  refine z_sld C hX hbl (law_in (j := 1) (by decide +kernel) (by omega) hL) dL_law_402 ?_
  refine z_aload_n C dL_law_403 rfl ?_
  refine z_iload_n C dL_law_404 rfl ?_
  refine z_iconst C dL_law_405 2 (by decide +kernel) ?_
  refine z_iadd C dL_law_406 ?_
  refine z_sld C hX hbl (law_in (j := 2) (by decide +kernel) (by omega) hL) dL_law_407 ?_
  refine z_callV0 C [(wMx cI gm (mS v) (mAside v) (mBefore v) (mText v) (mLetters v) (mBys v) (mFirst v) (mCommand v) (mKnown v) (mLength v) (mLogLong v) (mAreSame v) (mAt v) (mIsWrong v) (mPosition v) (mReason v) (mCause v))] [wX cI gx x] rfl rfl (met_X7_editorOf l D cI gm v (xs (nI i + 1).toNatClampNeg) (xs (nI i + 2).toNatClampNeg) _ hw) y_X7_editorOf mw_19_18 dL_law_408 rfl n_X7_editorOf rfl (by decide) ⟨rfl, rfl, Nat.le_of_ble_eq_true rfl, Nat.le_of_ble_eq_true rfl⟩ (Nat.le_of_ble_eq_true rfl) (z_pm [1, 0] 2 rfl (by decide) rfl) ?_
  intro ⟨r1, v1⟩ hw
  try dsimp only at hw
  refine z_bs [(wMx cI gm (mS v1) (mAside v1) (mBefore v1) (mText v1) (mLetters v1) (mBys v1) (mFirst v1) (mCommand v1) (mKnown v1) (mLength v1) (mLogLong v1) (mAreSame v1) (mAt v1) (mIsWrong v1) (mPosition v1) (mReason v1) (mCause v1)), wX cI gx x] [.int r1, .int r] rfl rfl ?_
  refine z_perm C [wX cI gx x, (wMx cI gm (mS v1) (mAside v1) (mBefore v1) (mText v1) (mLetters v1) (mBys v1) (mFirst v1) (mCommand v1) (mKnown v1) (mLength v1) (mLogLong v1) (mAreSame v1) (mAt v1) (mIsWrong v1) (mPosition v1) (mReason v1) (mCause v1))] (z_pm [1, 0] 2 rfl (by decide) rfl) ?_
  refine z_icmp_eq C dL_law_411 712 (by decide) (fun h1 => ?_) (fun h1 => absurd hw.1 h1)
  exact hn _ _ hw.2
def op_waitingOf (Rel : zX → zM → Prop) : Prop := ∀ (x : zX) (v : zM) (a1 : Int32) (a2 : Int32) (a3 : Int32), Rel x v → wp_X6_waitingOf x a1 a2 a3 (fun r => wp_X7_waitingOf v a1 a2 a3 (fun r1 v1 => r = r1 ∧ Rel x v1))
set_option maxHeartbeats 4000000 in
set_option maxRecDepth 100000 in
theorem law_case_10 (C : LC p s m meth c D cI b) (hX : va_X b L xs s s.heap) (hbl : b < s.heap.size) (hL : L ≤ 2048) {Rel : zX → zM → Prop} (H : op_waitingOf Rel) {x : zX} {v : zM} (hR : Rel x v) {i : Nat} (hi : i + 4 ≤ L) (hn : ∀ x v, Rel x v → ZLW p l e s m below meth c D cI b gx gm x v 712 [some (.ref b), some (.ref (gx 0)), some (.ref (gm 0)), some (.int (nI i))] []) : ZLW p l e s m below meth c D cI b gx gm x v 416 [some (.ref b), some (.ref (gx 0)), some (.ref (gm 0)), some (.int (nI i))] [] := by
  have hw := H x v (xs (nI i + 1).toNatClampNeg) (xs (nI i + 2).toNatClampNeg) (xs (nI i + 3).toNatClampNeg) hR
  refine z_aload_n C dL_law_416 rfl ?_
  refine z_aload_n C dL_law_417 rfl ?_
  refine z_iload_n C dL_law_418 rfl ?_
  refine z_iconst C dL_law_419 1 (by decide +kernel) ?_
  refine z_iadd C dL_law_420 ?_
  refine z_sld C hX hbl (law_in (j := 1) (by decide +kernel) (by omega) hL) dL_law_421 ?_
  refine z_aload_n C dL_law_422 rfl ?_
  refine z_iload_n C dL_law_423 rfl ?_
  refine z_iconst C dL_law_424 2 (by decide +kernel) ?_
  refine z_iadd C dL_law_425 ?_
  refine z_sld C hX hbl (law_in (j := 2) (by decide +kernel) (by omega) hL) dL_law_426 ?_
  refine z_aload_n C dL_law_427 rfl ?_
  refine z_iload_n C dL_law_428 rfl ?_
  refine z_iconst C dL_law_429 3 (by decide +kernel) ?_
  refine z_iadd C dL_law_430 ?_
  refine z_sld C hX hbl (law_in (j := 3) (by decide +kernel) (by omega) hL) dL_law_431 ?_
  refine z_callV0 C [wX cI gx x] [(wMx cI gm (mS v) (mAside v) (mBefore v) (mText v) (mLetters v) (mBys v) (mFirst v) (mCommand v) (mKnown v) (mLength v) (mLogLong v) (mAreSame v) (mAt v) (mIsWrong v) (mPosition v) (mReason v) (mCause v))] rfl rfl (met_X6_waitingOf l D cI gx x (xs (nI i + 1).toNatClampNeg) (xs (nI i + 2).toNatClampNeg) (xs (nI i + 3).toNatClampNeg) _ hw) y_X6_waitingOf mw_20_2 dL_law_432 rfl n_X6_waitingOf rfl (by decide) ⟨rfl, rfl, Nat.le_of_ble_eq_true rfl, Nat.le_of_ble_eq_true rfl⟩ (Nat.le_of_ble_eq_true rfl) (z_pm [0, 1] 2 rfl (by decide) rfl) ?_
  intro r hw
  try dsimp only at hw
  refine z_bs [wX cI gx x, (wMx cI gm (mS v) (mAside v) (mBefore v) (mText v) (mLetters v) (mBys v) (mFirst v) (mCommand v) (mKnown v) (mLength v) (mLogLong v) (mAreSame v) (mAt v) (mIsWrong v) (mPosition v) (mReason v) (mCause v))] [.int r] rfl rfl ?_
  refine z_aload_n C dL_law_435 rfl ?_
  refine z_aload_n C dL_law_436 rfl ?_
  refine z_iload_n C dL_law_437 rfl ?_
  refine z_iconst C dL_law_438 1 (by decide +kernel) ?_
  refine z_iadd C dL_law_439 ?_
  refine z_sld C hX hbl (law_in (j := 1) (by decide +kernel) (by omega) hL) dL_law_440 ?_
  refine z_aload_n C dL_law_441 rfl ?_
  refine z_iload_n C dL_law_442 rfl ?_
  refine z_iconst C dL_law_443 2 (by decide +kernel) ?_
  refine z_iadd C dL_law_444 ?_
  refine z_sld C hX hbl (law_in (j := 2) (by decide +kernel) (by omega) hL) dL_law_445 ?_
  refine z_aload_n C dL_law_446 rfl ?_
  refine z_iload_n C dL_law_447 rfl ?_
  refine z_iconst C dL_law_448 3 (by decide +kernel) ?_
  refine z_iadd C dL_law_449 ?_
  refine z_sld C hX hbl (law_in (j := 3) (by decide +kernel) (by omega) hL) dL_law_450 ?_
  refine z_callV0 C [(wMx cI gm (mS v) (mAside v) (mBefore v) (mText v) (mLetters v) (mBys v) (mFirst v) (mCommand v) (mKnown v) (mLength v) (mLogLong v) (mAreSame v) (mAt v) (mIsWrong v) (mPosition v) (mReason v) (mCause v))] [wX cI gx x] rfl rfl (met_X7_waitingOf l D cI gm v (xs (nI i + 1).toNatClampNeg) (xs (nI i + 2).toNatClampNeg) (xs (nI i + 3).toNatClampNeg) _ hw) y_X7_waitingOf mw_20_16 dL_law_451 rfl n_X7_waitingOf rfl (by decide) ⟨rfl, rfl, Nat.le_of_ble_eq_true rfl, Nat.le_of_ble_eq_true rfl⟩ (Nat.le_of_ble_eq_true rfl) (z_pm [1, 0] 2 rfl (by decide) rfl) ?_
  intro ⟨r1, v1⟩ hw
  try dsimp only at hw
  refine z_bs [(wMx cI gm (mS v1) (mAside v1) (mBefore v1) (mText v1) (mLetters v1) (mBys v1) (mFirst v1) (mCommand v1) (mKnown v1) (mLength v1) (mLogLong v1) (mAreSame v1) (mAt v1) (mIsWrong v1) (mPosition v1) (mReason v1) (mCause v1)), wX cI gx x] [.int r1, .int r] rfl rfl ?_
  refine z_perm C [wX cI gx x, (wMx cI gm (mS v1) (mAside v1) (mBefore v1) (mText v1) (mLetters v1) (mBys v1) (mFirst v1) (mCommand v1) (mKnown v1) (mLength v1) (mLogLong v1) (mAreSame v1) (mAt v1) (mIsWrong v1) (mPosition v1) (mReason v1) (mCause v1))] (z_pm [1, 0] 2 rfl (by decide) rfl) ?_
  refine z_icmp_eq C dL_law_454 712 (by decide) (fun h1 => ?_) (fun h1 => absurd hw.1 h1)
  exact hn _ _ hw.2
def op_logOf (Rel : zX → zM → Prop) : Prop := ∀ (x : zX) (v : zM) (a1 : Int32) (a2 : Int32), Rel x v → wp_X6_logOf x a1 a2 (fun r => wp_X7_logOf v a1 a2 (fun r1 v1 => r = r1 ∧ Rel x v1))
set_option maxHeartbeats 4000000 in
set_option maxRecDepth 100000 in
theorem law_case_11 (C : LC p s m meth c D cI b) (hX : va_X b L xs s s.heap) (hbl : b < s.heap.size) (hL : L ≤ 2048) {Rel : zX → zM → Prop} (H : op_logOf Rel) {x : zX} {v : zM} (hR : Rel x v) {i : Nat} (hi : i + 4 ≤ L) (hn : ∀ x v, Rel x v → ZLW p l e s m below meth c D cI b gx gm x v 712 [some (.ref b), some (.ref (gx 0)), some (.ref (gm 0)), some (.int (nI i))] []) : ZLW p l e s m below meth c D cI b gx gm x v 459 [some (.ref b), some (.ref (gx 0)), some (.ref (gm 0)), some (.int (nI i))] [] := by
  have hw := H x v (xs (nI i + 1).toNatClampNeg) (xs (nI i + 2).toNatClampNeg) hR
  refine z_aload_n C dL_law_459 rfl ?_
  refine z_aload_n C dL_law_460 rfl ?_
  refine z_iload_n C dL_law_461 rfl ?_
  refine z_iconst C dL_law_462 1 (by decide +kernel) ?_
  refine z_iadd C dL_law_463 ?_
  refine z_sld C hX hbl (law_in (j := 1) (by decide +kernel) (by omega) hL) dL_law_464 ?_
  refine z_aload_n C dL_law_465 rfl ?_
  refine z_iload_n C dL_law_466 rfl ?_
  refine z_iconst C dL_law_467 2 (by decide +kernel) ?_
  refine z_iadd C dL_law_468 ?_
  refine z_sld C hX hbl (law_in (j := 2) (by decide +kernel) (by omega) hL) dL_law_469 ?_
  refine z_callV0 C [wX cI gx x] [(wMx cI gm (mS v) (mAside v) (mBefore v) (mText v) (mLetters v) (mBys v) (mFirst v) (mCommand v) (mKnown v) (mLength v) (mLogLong v) (mAreSame v) (mAt v) (mIsWrong v) (mPosition v) (mReason v) (mCause v))] rfl rfl (met_X6_logOf l D cI gx x (xs (nI i + 1).toNatClampNeg) (xs (nI i + 2).toNatClampNeg) _ hw) y_X6_logOf mw_20_23 dL_law_470 rfl n_X6_logOf rfl (by decide) ⟨rfl, rfl, Nat.le_of_ble_eq_true rfl, Nat.le_of_ble_eq_true rfl⟩ (Nat.le_of_ble_eq_true rfl) (z_pm [0, 1] 2 rfl (by decide) rfl) ?_
  intro r hw
  try dsimp only at hw
  refine z_bs [wX cI gx x, (wMx cI gm (mS v) (mAside v) (mBefore v) (mText v) (mLetters v) (mBys v) (mFirst v) (mCommand v) (mKnown v) (mLength v) (mLogLong v) (mAreSame v) (mAt v) (mIsWrong v) (mPosition v) (mReason v) (mCause v))] [.int r] rfl rfl ?_
  refine z_aload_n C dL_law_473 rfl ?_
  refine z_aload_n C dL_law_474 rfl ?_
  refine z_iload_n C dL_law_475 rfl ?_
  refine z_iconst C dL_law_476 1 (by decide +kernel) ?_
  refine z_iadd C dL_law_477 ?_
  refine z_sld C hX hbl (law_in (j := 1) (by decide +kernel) (by omega) hL) dL_law_478 ?_
  refine z_aload_n C dL_law_479 rfl ?_
  refine z_iload_n C dL_law_480 rfl ?_
  refine z_iconst C dL_law_481 2 (by decide +kernel) ?_
  refine z_iadd C dL_law_482 ?_
  refine z_sld C hX hbl (law_in (j := 2) (by decide +kernel) (by omega) hL) dL_law_483 ?_
  refine z_callV0 C [(wMx cI gm (mS v) (mAside v) (mBefore v) (mText v) (mLetters v) (mBys v) (mFirst v) (mCommand v) (mKnown v) (mLength v) (mLogLong v) (mAreSame v) (mAt v) (mIsWrong v) (mPosition v) (mReason v) (mCause v))] [wX cI gx x] rfl rfl (met_X7_logOf l D cI gm v (xs (nI i + 1).toNatClampNeg) (xs (nI i + 2).toNatClampNeg) _ hw) y_X7_logOf mw_21_3 dL_law_484 rfl n_X7_logOf rfl (by decide) ⟨rfl, rfl, Nat.le_of_ble_eq_true rfl, Nat.le_of_ble_eq_true rfl⟩ (Nat.le_of_ble_eq_true rfl) (z_pm [1, 0] 2 rfl (by decide) rfl) ?_
  intro ⟨r1, v1⟩ hw
  try dsimp only at hw
  refine z_bs [(wMx cI gm (mS v1) (mAside v1) (mBefore v1) (mText v1) (mLetters v1) (mBys v1) (mFirst v1) (mCommand v1) (mKnown v1) (mLength v1) (mLogLong v1) (mAreSame v1) (mAt v1) (mIsWrong v1) (mPosition v1) (mReason v1) (mCause v1)), wX cI gx x] [.int r1, .int r] rfl rfl ?_
  refine z_perm C [wX cI gx x, (wMx cI gm (mS v1) (mAside v1) (mBefore v1) (mText v1) (mLetters v1) (mBys v1) (mFirst v1) (mCommand v1) (mKnown v1) (mLength v1) (mLogLong v1) (mAreSame v1) (mAt v1) (mIsWrong v1) (mPosition v1) (mReason v1) (mCause v1))] (z_pm [1, 0] 2 rfl (by decide) rfl) ?_
  refine z_icmp_eq C dL_law_487 712 (by decide) (fun h1 => ?_) (fun h1 => absurd hw.1 h1)
  exact hn _ _ hw.2
def op_by (Rel : zX → zM → Prop) : Prop := ∀ (x : zX) (v : zM) (a1 : Int32), Rel x v → wp_X6_by x a1 (fun r => wp_X7_by v a1 (fun r1 v1 => r = r1 ∧ Rel x v1))
set_option maxHeartbeats 4000000 in
set_option maxRecDepth 100000 in
theorem law_case_12 (C : LC p s m meth c D cI b) (hX : va_X b L xs s s.heap) (hbl : b < s.heap.size) (hL : L ≤ 2048) {Rel : zX → zM → Prop} (H : op_by Rel) {x : zX} {v : zM} (hR : Rel x v) {i : Nat} (hi : i + 4 ≤ L) (hn : ∀ x v, Rel x v → ZLW p l e s m below meth c D cI b gx gm x v 712 [some (.ref b), some (.ref (gx 0)), some (.ref (gm 0)), some (.int (nI i))] []) : ZLW p l e s m below meth c D cI b gx gm x v 492 [some (.ref b), some (.ref (gx 0)), some (.ref (gm 0)), some (.int (nI i))] [] := by
  have hw := H x v (xs (nI i + 1).toNatClampNeg) hR
  refine z_aload_n C dL_law_492 rfl ?_
  refine z_aload_n C dL_law_493 rfl ?_
  refine z_iload_n C dL_law_494 rfl ?_
  refine z_iconst C dL_law_495 1 (by decide +kernel) ?_
  refine z_iadd C dL_law_496 ?_
  refine z_sld C hX hbl (law_in (j := 1) (by decide +kernel) (by omega) hL) dL_law_497 ?_
  refine z_callV0 C [wX cI gx x] [(wMx cI gm (mS v) (mAside v) (mBefore v) (mText v) (mLetters v) (mBys v) (mFirst v) (mCommand v) (mKnown v) (mLength v) (mLogLong v) (mAreSame v) (mAt v) (mIsWrong v) (mPosition v) (mReason v) (mCause v))] rfl rfl (met_X6_by l D cI gx x (xs (nI i + 1).toNatClampNeg) _ hw) y_X6_by mw_21_7 dL_law_498 rfl n_X6_by rfl (by decide) ⟨rfl, rfl, Nat.le_of_ble_eq_true rfl, Nat.le_of_ble_eq_true rfl⟩ (Nat.le_of_ble_eq_true rfl) (z_pm [0, 1] 2 rfl (by decide) rfl) ?_
  intro r hw
  try dsimp only at hw
  refine z_bs [wX cI gx x, (wMx cI gm (mS v) (mAside v) (mBefore v) (mText v) (mLetters v) (mBys v) (mFirst v) (mCommand v) (mKnown v) (mLength v) (mLogLong v) (mAreSame v) (mAt v) (mIsWrong v) (mPosition v) (mReason v) (mCause v))] [.int r] rfl rfl ?_
  refine z_aload_n C dL_law_501 rfl ?_
  refine z_aload_n C dL_law_502 rfl ?_
  refine z_iload_n C dL_law_503 rfl ?_
  refine z_iconst C dL_law_504 1 (by decide +kernel) ?_
  refine z_iadd C dL_law_505 ?_
  refine z_sld C hX hbl (law_in (j := 1) (by decide +kernel) (by omega) hL) dL_law_506 ?_
  refine z_callV0 C [(wMx cI gm (mS v) (mAside v) (mBefore v) (mText v) (mLetters v) (mBys v) (mFirst v) (mCommand v) (mKnown v) (mLength v) (mLogLong v) (mAreSame v) (mAt v) (mIsWrong v) (mPosition v) (mReason v) (mCause v))] [wX cI gx x] rfl rfl (met_X7_by l D cI gm v (xs (nI i + 1).toNatClampNeg) _ hw) y_X7_by mw_21_11 dL_law_507 rfl n_X7_by rfl (by decide) ⟨rfl, rfl, Nat.le_of_ble_eq_true rfl, Nat.le_of_ble_eq_true rfl⟩ (Nat.le_of_ble_eq_true rfl) (z_pm [1, 0] 2 rfl (by decide) rfl) ?_
  intro ⟨r1, v1⟩ hw
  try dsimp only at hw
  refine z_bs [(wMx cI gm (mS v1) (mAside v1) (mBefore v1) (mText v1) (mLetters v1) (mBys v1) (mFirst v1) (mCommand v1) (mKnown v1) (mLength v1) (mLogLong v1) (mAreSame v1) (mAt v1) (mIsWrong v1) (mPosition v1) (mReason v1) (mCause v1)), wX cI gx x] [.int r1, .int r] rfl rfl ?_
  refine z_perm C [wX cI gx x, (wMx cI gm (mS v1) (mAside v1) (mBefore v1) (mText v1) (mLetters v1) (mBys v1) (mFirst v1) (mCommand v1) (mKnown v1) (mLength v1) (mLogLong v1) (mAreSame v1) (mAt v1) (mIsWrong v1) (mPosition v1) (mReason v1) (mCause v1))] (z_pm [1, 0] 2 rfl (by decide) rfl) ?_
  refine z_icmp_eq C dL_law_510 712 (by decide) (fun h1 => ?_) (fun h1 => absurd hw.1 h1)
  exact hn _ _ hw.2
def op_count (Rel : zX → zM → Prop) : Prop := ∀ (x : zX) (v : zM) (a1 : Int32), Rel x v → wp_X6_count x a1 (fun r => wp_X7_count v a1 (fun r1 v1 => r = r1 ∧ Rel x v1))
set_option maxHeartbeats 4000000 in
set_option maxRecDepth 100000 in
theorem law_case_13 (C : LC p s m meth c D cI b) (hX : va_X b L xs s s.heap) (hbl : b < s.heap.size) (hL : L ≤ 2048) {Rel : zX → zM → Prop} (H : op_count Rel) {x : zX} {v : zM} (hR : Rel x v) {i : Nat} (hi : i + 4 ≤ L) (hn : ∀ x v, Rel x v → ZLW p l e s m below meth c D cI b gx gm x v 712 [some (.ref b), some (.ref (gx 0)), some (.ref (gm 0)), some (.int (nI i))] []) : ZLW p l e s m below meth c D cI b gx gm x v 515 [some (.ref b), some (.ref (gx 0)), some (.ref (gm 0)), some (.int (nI i))] [] := by
  have hw := H x v (xs (nI i + 1).toNatClampNeg) hR
  refine z_aload_n C dL_law_515 rfl ?_
  refine z_aload_n C dL_law_516 rfl ?_
  refine z_iload_n C dL_law_517 rfl ?_
  refine z_iconst C dL_law_518 1 (by decide +kernel) ?_
  refine z_iadd C dL_law_519 ?_
  refine z_sld C hX hbl (law_in (j := 1) (by decide +kernel) (by omega) hL) dL_law_520 ?_
  refine z_callV0 C [wX cI gx x] [(wMx cI gm (mS v) (mAside v) (mBefore v) (mText v) (mLetters v) (mBys v) (mFirst v) (mCommand v) (mKnown v) (mLength v) (mLogLong v) (mAreSame v) (mAt v) (mIsWrong v) (mPosition v) (mReason v) (mCause v))] rfl rfl (met_X6_count l D cI gx x (xs (nI i + 1).toNatClampNeg) _ hw) y_X6_count mw_21_15 dL_law_521 rfl n_X6_count rfl (by decide) ⟨rfl, rfl, Nat.le_of_ble_eq_true rfl, Nat.le_of_ble_eq_true rfl⟩ (Nat.le_of_ble_eq_true rfl) (z_pm [0, 1] 2 rfl (by decide) rfl) ?_
  intro r hw
  try dsimp only at hw
  refine z_bs [wX cI gx x, (wMx cI gm (mS v) (mAside v) (mBefore v) (mText v) (mLetters v) (mBys v) (mFirst v) (mCommand v) (mKnown v) (mLength v) (mLogLong v) (mAreSame v) (mAt v) (mIsWrong v) (mPosition v) (mReason v) (mCause v))] [.int r] rfl rfl ?_
  refine z_aload_n C dL_law_524 rfl ?_
  refine z_aload_n C dL_law_525 rfl ?_
  refine z_iload_n C dL_law_526 rfl ?_
  refine z_iconst C dL_law_527 1 (by decide +kernel) ?_
  refine z_iadd C dL_law_528 ?_
  refine z_sld C hX hbl (law_in (j := 1) (by decide +kernel) (by omega) hL) dL_law_529 ?_
  refine z_callV0 C [(wMx cI gm (mS v) (mAside v) (mBefore v) (mText v) (mLetters v) (mBys v) (mFirst v) (mCommand v) (mKnown v) (mLength v) (mLogLong v) (mAreSame v) (mAt v) (mIsWrong v) (mPosition v) (mReason v) (mCause v))] [wX cI gx x] rfl rfl (met_X7_count l D cI gm v (xs (nI i + 1).toNatClampNeg) _ hw) y_X7_count mw_22_12 dL_law_530 rfl n_X7_count rfl (by decide) ⟨rfl, rfl, Nat.le_of_ble_eq_true rfl, Nat.le_of_ble_eq_true rfl⟩ (Nat.le_of_ble_eq_true rfl) (z_pm [1, 0] 2 rfl (by decide) rfl) ?_
  intro ⟨r1, v1⟩ hw
  try dsimp only at hw
  refine z_bs [(wMx cI gm (mS v1) (mAside v1) (mBefore v1) (mText v1) (mLetters v1) (mBys v1) (mFirst v1) (mCommand v1) (mKnown v1) (mLength v1) (mLogLong v1) (mAreSame v1) (mAt v1) (mIsWrong v1) (mPosition v1) (mReason v1) (mCause v1)), wX cI gx x] [.int r1, .int r] rfl rfl ?_
  refine z_perm C [wX cI gx x, (wMx cI gm (mS v1) (mAside v1) (mBefore v1) (mText v1) (mLetters v1) (mBys v1) (mFirst v1) (mCommand v1) (mKnown v1) (mLength v1) (mLogLong v1) (mAreSame v1) (mAt v1) (mIsWrong v1) (mPosition v1) (mReason v1) (mCause v1))] (z_pm [1, 0] 2 rfl (by decide) rfl) ?_
  refine z_icmp_eq C dL_law_533 712 (by decide) (fun h1 => ?_) (fun h1 => absurd hw.1 h1)
  exact hn _ _ hw.2
def op_inTheEnd (Rel : zX → zM → Prop) : Prop := ∀ (x : zX) (v : zM) (a1 : Int32) (a2 : Int32), Rel x v → wp_X6_inTheEnd x a1 a2 (fun r x1 => wp_X7_inTheEnd v a1 a2 (fun r1 v1 => r = r1 ∧ Rel x1 v1))
set_option maxHeartbeats 4000000 in
set_option maxRecDepth 100000 in
theorem law_case_14 (C : LC p s m meth c D cI b) (hX : va_X b L xs s s.heap) (hbl : b < s.heap.size) (hL : L ≤ 2048) {Rel : zX → zM → Prop} (H : op_inTheEnd Rel) {x : zX} {v : zM} (hR : Rel x v) {i : Nat} (hi : i + 4 ≤ L) (hn : ∀ x v, Rel x v → ZLW p l e s m below meth c D cI b gx gm x v 712 [some (.ref b), some (.ref (gx 0)), some (.ref (gm 0)), some (.int (nI i))] []) : ZLW p l e s m below meth c D cI b gx gm x v 538 [some (.ref b), some (.ref (gx 0)), some (.ref (gm 0)), some (.int (nI i))] [] := by
  have hw := H x v (xs (nI i + 1).toNatClampNeg) (xs (nI i + 2).toNatClampNeg) hR
  refine z_aload_n C dL_law_538 rfl ?_
  refine z_aload_n C dL_law_539 rfl ?_
  refine z_iload_n C dL_law_540 rfl ?_
  refine z_iconst C dL_law_541 1 (by decide +kernel) ?_
  refine z_iadd C dL_law_542 ?_
  refine z_sld C hX hbl (law_in (j := 1) (by decide +kernel) (by omega) hL) dL_law_543 ?_
  refine z_aload_n C dL_law_544 rfl ?_
  refine z_iload_n C dL_law_545 rfl ?_
  refine z_iconst C dL_law_546 2 (by decide +kernel) ?_
  refine z_iadd C dL_law_547 ?_
  refine z_sld C hX hbl (law_in (j := 2) (by decide +kernel) (by omega) hL) dL_law_548 ?_
  refine z_callV0 C [wX cI gx x] [(wMx cI gm (mS v) (mAside v) (mBefore v) (mText v) (mLetters v) (mBys v) (mFirst v) (mCommand v) (mKnown v) (mLength v) (mLogLong v) (mAreSame v) (mAt v) (mIsWrong v) (mPosition v) (mReason v) (mCause v))] rfl rfl (met_X6_inTheEnd l D cI gx x (xs (nI i + 1).toNatClampNeg) (xs (nI i + 2).toNatClampNeg) _ hw) y_X6_inTheEnd mw_22_21 dL_law_549 rfl n_X6_inTheEnd rfl (by decide) ⟨rfl, rfl, Nat.le_of_ble_eq_true rfl, Nat.le_of_ble_eq_true rfl⟩ (Nat.le_of_ble_eq_true rfl) (z_pm [0, 1] 2 rfl (by decide) rfl) ?_
  intro ⟨r, x1⟩ hw
  try dsimp only at hw
  refine z_bs [wX cI gx x1, (wMx cI gm (mS v) (mAside v) (mBefore v) (mText v) (mLetters v) (mBys v) (mFirst v) (mCommand v) (mKnown v) (mLength v) (mLogLong v) (mAreSame v) (mAt v) (mIsWrong v) (mPosition v) (mReason v) (mCause v))] [.int r] rfl rfl ?_
  refine z_aload_n C dL_law_552 rfl ?_
  refine z_aload_n C dL_law_553 rfl ?_
  refine z_iload_n C dL_law_554 rfl ?_
  refine z_iconst C dL_law_555 1 (by decide +kernel) ?_
  refine z_iadd C dL_law_556 ?_
  refine z_sld C hX hbl (law_in (j := 1) (by decide +kernel) (by omega) hL) dL_law_557 ?_
  refine z_aload_n C dL_law_558 rfl ?_
  refine z_iload_n C dL_law_559 rfl ?_
  refine z_iconst C dL_law_560 2 (by decide +kernel) ?_
  refine z_iadd C dL_law_561 ?_
  refine z_sld C hX hbl (law_in (j := 2) (by decide +kernel) (by omega) hL) dL_law_562 ?_
  refine z_callV0 C [(wMx cI gm (mS v) (mAside v) (mBefore v) (mText v) (mLetters v) (mBys v) (mFirst v) (mCommand v) (mKnown v) (mLength v) (mLogLong v) (mAreSame v) (mAt v) (mIsWrong v) (mPosition v) (mReason v) (mCause v))] [wX cI gx x1] rfl rfl (met_X7_inTheEnd l D cI gm v (xs (nI i + 1).toNatClampNeg) (xs (nI i + 2).toNatClampNeg) _ hw) y_X7_inTheEnd mw_23_6 dL_law_563 rfl n_X7_inTheEnd rfl (by decide) ⟨rfl, rfl, Nat.le_of_ble_eq_true rfl, Nat.le_of_ble_eq_true rfl⟩ (Nat.le_of_ble_eq_true rfl) (z_pm [1, 0] 2 rfl (by decide) rfl) ?_
  intro ⟨r1, v1⟩ hw
  try dsimp only at hw
  refine z_bs [(wMx cI gm (mS v1) (mAside v1) (mBefore v1) (mText v1) (mLetters v1) (mBys v1) (mFirst v1) (mCommand v1) (mKnown v1) (mLength v1) (mLogLong v1) (mAreSame v1) (mAt v1) (mIsWrong v1) (mPosition v1) (mReason v1) (mCause v1)), wX cI gx x1] [.int r1, .int r] rfl rfl ?_
  refine z_perm C [wX cI gx x1, (wMx cI gm (mS v1) (mAside v1) (mBefore v1) (mText v1) (mLetters v1) (mBys v1) (mFirst v1) (mCommand v1) (mKnown v1) (mLength v1) (mLogLong v1) (mAreSame v1) (mAt v1) (mIsWrong v1) (mPosition v1) (mReason v1) (mCause v1))] (z_pm [1, 0] 2 rfl (by decide) rfl) ?_
  refine z_icmp_eq C dL_law_566 712 (by decide) (fun h1 => ?_) (fun h1 => absurd hw.1 h1)
  exact hn _ _ hw.2
def op_both (Rel : zX → zM → Prop) : Prop := ∀ (x : zX) (v : zM) (a1 : Int32), Rel x v → wp_X6_both x a1 (fun r x1 => wp_X7_both v a1 (fun r1 v1 => r = r1 ∧ Rel x1 v1))
set_option maxHeartbeats 4000000 in
set_option maxRecDepth 100000 in
theorem law_case_15 (C : LC p s m meth c D cI b) (hX : va_X b L xs s s.heap) (hbl : b < s.heap.size) (hL : L ≤ 2048) {Rel : zX → zM → Prop} (H : op_both Rel) {x : zX} {v : zM} (hR : Rel x v) {i : Nat} (hi : i + 4 ≤ L) (hn : ∀ x v, Rel x v → ZLW p l e s m below meth c D cI b gx gm x v 712 [some (.ref b), some (.ref (gx 0)), some (.ref (gm 0)), some (.int (nI i))] []) : ZLW p l e s m below meth c D cI b gx gm x v 571 [some (.ref b), some (.ref (gx 0)), some (.ref (gm 0)), some (.int (nI i))] [] := by
  have hw := H x v (xs (nI i + 1).toNatClampNeg) hR
  refine z_aload_n C dL_law_571 rfl ?_
  refine z_aload_n C dL_law_572 rfl ?_
  refine z_iload_n C dL_law_573 rfl ?_
  refine z_iconst C dL_law_574 1 (by decide +kernel) ?_
  refine z_iadd C dL_law_575 ?_
  refine z_sld C hX hbl (law_in (j := 1) (by decide +kernel) (by omega) hL) dL_law_576 ?_
  refine z_callV0 C [wX cI gx x] [(wMx cI gm (mS v) (mAside v) (mBefore v) (mText v) (mLetters v) (mBys v) (mFirst v) (mCommand v) (mKnown v) (mLength v) (mLogLong v) (mAreSame v) (mAt v) (mIsWrong v) (mPosition v) (mReason v) (mCause v))] rfl rfl (met_X6_both l D cI gx x (xs (nI i + 1).toNatClampNeg) _ hw) y_X6_both mw_23_23 dL_law_577 rfl n_X6_both rfl (by decide) ⟨rfl, rfl, Nat.le_of_ble_eq_true rfl, Nat.le_of_ble_eq_true rfl⟩ (Nat.le_of_ble_eq_true rfl) (z_pm [0, 1] 2 rfl (by decide) rfl) ?_
  intro ⟨r, x1⟩ hw
  try dsimp only at hw
  refine z_bs [wX cI gx x1, (wMx cI gm (mS v) (mAside v) (mBefore v) (mText v) (mLetters v) (mBys v) (mFirst v) (mCommand v) (mKnown v) (mLength v) (mLogLong v) (mAreSame v) (mAt v) (mIsWrong v) (mPosition v) (mReason v) (mCause v))] [.int r] rfl rfl ?_
  refine z_aload_n C dL_law_580 rfl ?_
  refine z_aload_n C dL_law_581 rfl ?_
  refine z_iload_n C dL_law_582 rfl ?_
  refine z_iconst C dL_law_583 1 (by decide +kernel) ?_
  refine z_iadd C dL_law_584 ?_
  refine z_sld C hX hbl (law_in (j := 1) (by decide +kernel) (by omega) hL) dL_law_585 ?_
  refine z_callV0 C [(wMx cI gm (mS v) (mAside v) (mBefore v) (mText v) (mLetters v) (mBys v) (mFirst v) (mCommand v) (mKnown v) (mLength v) (mLogLong v) (mAreSame v) (mAt v) (mIsWrong v) (mPosition v) (mReason v) (mCause v))] [wX cI gx x1] rfl rfl (met_X7_both l D cI gm v (xs (nI i + 1).toNatClampNeg) _ hw) y_X7_both mw_24_8 dL_law_586 rfl n_X7_both rfl (by decide) ⟨rfl, rfl, Nat.le_of_ble_eq_true rfl, Nat.le_of_ble_eq_true rfl⟩ (Nat.le_of_ble_eq_true rfl) (z_pm [1, 0] 2 rfl (by decide) rfl) ?_
  intro ⟨r1, v1⟩ hw
  try dsimp only at hw
  refine z_bs [(wMx cI gm (mS v1) (mAside v1) (mBefore v1) (mText v1) (mLetters v1) (mBys v1) (mFirst v1) (mCommand v1) (mKnown v1) (mLength v1) (mLogLong v1) (mAreSame v1) (mAt v1) (mIsWrong v1) (mPosition v1) (mReason v1) (mCause v1)), wX cI gx x1] [.int r1, .int r] rfl rfl ?_
  refine z_perm C [wX cI gx x1, (wMx cI gm (mS v1) (mAside v1) (mBefore v1) (mText v1) (mLetters v1) (mBys v1) (mFirst v1) (mCommand v1) (mKnown v1) (mLength v1) (mLogLong v1) (mAreSame v1) (mAt v1) (mIsWrong v1) (mPosition v1) (mReason v1) (mCause v1))] (z_pm [1, 0] 2 rfl (by decide) rfl) ?_
  refine z_icmp_eq C dL_law_589 712 (by decide) (fun h1 => ?_) (fun h1 => absurd hw.1 h1)
  exact hn _ _ hw.2
def op_wouldSend (Rel : zX → zM → Prop) : Prop := ∀ (x : zX) (v : zM) (a1 : Int32) (a2 : Int32), Rel x v → wp_X6_wouldSend x a1 a2 (fun r => wp_X7_wouldSend v a1 a2 (fun r1 v1 => r = r1 ∧ Rel x v1))
set_option maxHeartbeats 4000000 in
set_option maxRecDepth 100000 in
theorem law_case_16 (C : LC p s m meth c D cI b) (hX : va_X b L xs s s.heap) (hbl : b < s.heap.size) (hL : L ≤ 2048) {Rel : zX → zM → Prop} (H : op_wouldSend Rel) {x : zX} {v : zM} (hR : Rel x v) {i : Nat} (hi : i + 4 ≤ L) (hn : ∀ x v, Rel x v → ZLW p l e s m below meth c D cI b gx gm x v 712 [some (.ref b), some (.ref (gx 0)), some (.ref (gm 0)), some (.int (nI i))] []) : ZLW p l e s m below meth c D cI b gx gm x v 594 [some (.ref b), some (.ref (gx 0)), some (.ref (gm 0)), some (.int (nI i))] [] := by
  have hw := H x v (xs (nI i + 1).toNatClampNeg) (xs (nI i + 2).toNatClampNeg) hR
  refine z_aload_n C dL_law_594 rfl ?_
  refine z_aload_n C dL_law_595 rfl ?_
  refine z_iload_n C dL_law_596 rfl ?_
  refine z_iconst C dL_law_597 1 (by decide +kernel) ?_
  refine z_iadd C dL_law_598 ?_
  refine z_sld C hX hbl (law_in (j := 1) (by decide +kernel) (by omega) hL) dL_law_599 ?_
  refine z_aload_n C dL_law_600 rfl ?_
  refine z_iload_n C dL_law_601 rfl ?_
  refine z_iconst C dL_law_602 2 (by decide +kernel) ?_
  refine z_iadd C dL_law_603 ?_
  refine z_sld C hX hbl (law_in (j := 2) (by decide +kernel) (by omega) hL) dL_law_604 ?_
  refine z_callV0 C [wX cI gx x] [(wMx cI gm (mS v) (mAside v) (mBefore v) (mText v) (mLetters v) (mBys v) (mFirst v) (mCommand v) (mKnown v) (mLength v) (mLogLong v) (mAreSame v) (mAt v) (mIsWrong v) (mPosition v) (mReason v) (mCause v))] rfl rfl (met_X6_wouldSend l D cI gx x (xs (nI i + 1).toNatClampNeg) (xs (nI i + 2).toNatClampNeg) _ hw) y_X6_wouldSend mw_24_12 dL_law_605 rfl n_X6_wouldSend rfl (by decide) ⟨rfl, rfl, Nat.le_of_ble_eq_true rfl, Nat.le_of_ble_eq_true rfl⟩ (Nat.le_of_ble_eq_true rfl) (z_pm [0, 1] 2 rfl (by decide) rfl) ?_
  intro r hw
  try dsimp only at hw
  refine z_bs [wX cI gx x, (wMx cI gm (mS v) (mAside v) (mBefore v) (mText v) (mLetters v) (mBys v) (mFirst v) (mCommand v) (mKnown v) (mLength v) (mLogLong v) (mAreSame v) (mAt v) (mIsWrong v) (mPosition v) (mReason v) (mCause v))] [.int r] rfl rfl ?_
  refine z_aload_n C dL_law_608 rfl ?_
  refine z_aload_n C dL_law_609 rfl ?_
  refine z_iload_n C dL_law_610 rfl ?_
  refine z_iconst C dL_law_611 1 (by decide +kernel) ?_
  refine z_iadd C dL_law_612 ?_
  refine z_sld C hX hbl (law_in (j := 1) (by decide +kernel) (by omega) hL) dL_law_613 ?_
  refine z_aload_n C dL_law_614 rfl ?_
  refine z_iload_n C dL_law_615 rfl ?_
  refine z_iconst C dL_law_616 2 (by decide +kernel) ?_
  refine z_iadd C dL_law_617 ?_
  refine z_sld C hX hbl (law_in (j := 2) (by decide +kernel) (by omega) hL) dL_law_618 ?_
  refine z_callV0 C [(wMx cI gm (mS v) (mAside v) (mBefore v) (mText v) (mLetters v) (mBys v) (mFirst v) (mCommand v) (mKnown v) (mLength v) (mLogLong v) (mAreSame v) (mAt v) (mIsWrong v) (mPosition v) (mReason v) (mCause v))] [wX cI gx x] rfl rfl (met_X7_wouldSend l D cI gm v (xs (nI i + 1).toNatClampNeg) (xs (nI i + 2).toNatClampNeg) _ hw) y_X7_wouldSend mw_24_18 dL_law_619 rfl n_X7_wouldSend rfl (by decide) ⟨rfl, rfl, Nat.le_of_ble_eq_true rfl, Nat.le_of_ble_eq_true rfl⟩ (Nat.le_of_ble_eq_true rfl) (z_pm [1, 0] 2 rfl (by decide) rfl) ?_
  intro ⟨r1, v1⟩ hw
  try dsimp only at hw
  refine z_bs [(wMx cI gm (mS v1) (mAside v1) (mBefore v1) (mText v1) (mLetters v1) (mBys v1) (mFirst v1) (mCommand v1) (mKnown v1) (mLength v1) (mLogLong v1) (mAreSame v1) (mAt v1) (mIsWrong v1) (mPosition v1) (mReason v1) (mCause v1)), wX cI gx x] [.int r1, .int r] rfl rfl ?_
  refine z_perm C [wX cI gx x, (wMx cI gm (mS v1) (mAside v1) (mBefore v1) (mText v1) (mLetters v1) (mBys v1) (mFirst v1) (mCommand v1) (mKnown v1) (mLength v1) (mLogLong v1) (mAreSame v1) (mAt v1) (mIsWrong v1) (mPosition v1) (mReason v1) (mCause v1))] (z_pm [1, 0] 2 rfl (by decide) rfl) ?_
  refine z_icmp_eq C dL_law_622 712 (by decide) (fun h1 => ?_) (fun h1 => absurd hw.1 h1)
  exact hn _ _ hw.2
def op_undo (Rel : zX → zM → Prop) : Prop := ∀ (x : zX) (v : zM), Rel x v → wp_X6_undo x  (fun r x1 => wp_X7_undo v  (fun r1 v1 => r = r1 ∧ Rel x1 v1))
set_option maxHeartbeats 4000000 in
set_option maxRecDepth 100000 in
theorem law_case_17 (C : LC p s m meth c D cI b) (hX : va_X b L xs s s.heap) (hbl : b < s.heap.size) (hL : L ≤ 2048) {Rel : zX → zM → Prop} (H : op_undo Rel) {x : zX} {v : zM} (hR : Rel x v) {i : Nat} (hi : i + 4 ≤ L) (hn : ∀ x v, Rel x v → ZLW p l e s m below meth c D cI b gx gm x v 712 [some (.ref b), some (.ref (gx 0)), some (.ref (gm 0)), some (.int (nI i))] []) : ZLW p l e s m below meth c D cI b gx gm x v 627 [some (.ref b), some (.ref (gx 0)), some (.ref (gm 0)), some (.int (nI i))] [] := by
  have hw := H x v  hR
  refine z_aload_n C dL_law_627 rfl ?_
  refine z_callV0 C [wX cI gx x] [(wMx cI gm (mS v) (mAside v) (mBefore v) (mText v) (mLetters v) (mBys v) (mFirst v) (mCommand v) (mKnown v) (mLength v) (mLogLong v) (mAreSame v) (mAt v) (mIsWrong v) (mPosition v) (mReason v) (mCause v))] rfl rfl (met_X6_undo l D cI gx x  _ hw) y_X6_undo mw_24_22 dL_law_628 rfl n_X6_undo rfl (by decide) ⟨rfl, rfl, Nat.le_of_ble_eq_true rfl, Nat.le_of_ble_eq_true rfl⟩ (Nat.le_of_ble_eq_true rfl) (z_pm [0, 1] 2 rfl (by decide) rfl) ?_
  intro ⟨r, x1⟩ hw
  try dsimp only at hw
  refine z_bs [wX cI gx x1, (wMx cI gm (mS v) (mAside v) (mBefore v) (mText v) (mLetters v) (mBys v) (mFirst v) (mCommand v) (mKnown v) (mLength v) (mLogLong v) (mAreSame v) (mAt v) (mIsWrong v) (mPosition v) (mReason v) (mCause v))] [.int r] rfl rfl ?_
  refine z_aload_n C dL_law_631 rfl ?_
  refine z_callV0 C [(wMx cI gm (mS v) (mAside v) (mBefore v) (mText v) (mLetters v) (mBys v) (mFirst v) (mCommand v) (mKnown v) (mLength v) (mLogLong v) (mAreSame v) (mAt v) (mIsWrong v) (mPosition v) (mReason v) (mCause v))] [wX cI gx x1] rfl rfl (met_X7_undo l D cI gm v  _ hw) y_X7_undo mw_25_7 dL_law_632 rfl n_X7_undo rfl (by decide) ⟨rfl, rfl, Nat.le_of_ble_eq_true rfl, Nat.le_of_ble_eq_true rfl⟩ (Nat.le_of_ble_eq_true rfl) (z_pm [1, 0] 2 rfl (by decide) rfl) ?_
  intro ⟨r1, v1⟩ hw
  try dsimp only at hw
  refine z_bs [(wMx cI gm (mS v1) (mAside v1) (mBefore v1) (mText v1) (mLetters v1) (mBys v1) (mFirst v1) (mCommand v1) (mKnown v1) (mLength v1) (mLogLong v1) (mAreSame v1) (mAt v1) (mIsWrong v1) (mPosition v1) (mReason v1) (mCause v1)), wX cI gx x1] [.int r1, .int r] rfl rfl ?_
  refine z_perm C [wX cI gx x1, (wMx cI gm (mS v1) (mAside v1) (mBefore v1) (mText v1) (mLetters v1) (mBys v1) (mFirst v1) (mCommand v1) (mKnown v1) (mLength v1) (mLogLong v1) (mAreSame v1) (mAt v1) (mIsWrong v1) (mPosition v1) (mReason v1) (mCause v1))] (z_pm [1, 0] 2 rfl (by decide) rfl) ?_
  refine z_icmp_eq C dL_law_635 712 (by decide) (fun h1 => ?_) (fun h1 => absurd hw.1 h1)
  exact hn _ _ hw.2
def op_type (Rel : zX → zM → Prop) : Prop := ∀ (x : zX) (v : zM) (a1 : Int32), Rel x v → wp_X6_type x a1 (fun r x1 => wp_X7_type v a1 (fun r1 v1 => r = r1 ∧ Rel x1 v1))
set_option maxHeartbeats 4000000 in
set_option maxRecDepth 100000 in
theorem law_case_18 (C : LC p s m meth c D cI b) (hX : va_X b L xs s s.heap) (hbl : b < s.heap.size) (hL : L ≤ 2048) {Rel : zX → zM → Prop} (H : op_type Rel) {x : zX} {v : zM} (hR : Rel x v) {i : Nat} (hi : i + 4 ≤ L) (hn : ∀ x v, Rel x v → ZLW p l e s m below meth c D cI b gx gm x v 712 [some (.ref b), some (.ref (gx 0)), some (.ref (gm 0)), some (.int (nI i))] []) : ZLW p l e s m below meth c D cI b gx gm x v 640 [some (.ref b), some (.ref (gx 0)), some (.ref (gm 0)), some (.int (nI i))] [] := by
  have hw := H x v (xs (nI i + 1).toNatClampNeg) hR
  refine z_aload_n C dL_law_640 rfl ?_
  refine z_aload_n C dL_law_641 rfl ?_
  refine z_iload_n C dL_law_642 rfl ?_
  refine z_iconst C dL_law_643 1 (by decide +kernel) ?_
  refine z_iadd C dL_law_644 ?_
  refine z_sld C hX hbl (law_in (j := 1) (by decide +kernel) (by omega) hL) dL_law_645 ?_
  refine z_callV0 C [wX cI gx x] [(wMx cI gm (mS v) (mAside v) (mBefore v) (mText v) (mLetters v) (mBys v) (mFirst v) (mCommand v) (mKnown v) (mLength v) (mLogLong v) (mAreSame v) (mAt v) (mIsWrong v) (mPosition v) (mReason v) (mCause v))] rfl rfl (met_X6_type l D cI gx x (xs (nI i + 1).toNatClampNeg) _ hw) y_X6_type mw_25_11 dL_law_646 rfl n_X6_type rfl (by decide) ⟨rfl, rfl, Nat.le_of_ble_eq_true rfl, Nat.le_of_ble_eq_true rfl⟩ (Nat.le_of_ble_eq_true rfl) (z_pm [0, 1] 2 rfl (by decide) rfl) ?_
  intro ⟨r, x1⟩ hw
  try dsimp only at hw
  refine z_bs [wX cI gx x1, (wMx cI gm (mS v) (mAside v) (mBefore v) (mText v) (mLetters v) (mBys v) (mFirst v) (mCommand v) (mKnown v) (mLength v) (mLogLong v) (mAreSame v) (mAt v) (mIsWrong v) (mPosition v) (mReason v) (mCause v))] [.int r] rfl rfl ?_
  refine z_aload_n C dL_law_649 rfl ?_
  refine z_aload_n C dL_law_650 rfl ?_
  refine z_iload_n C dL_law_651 rfl ?_
  refine z_iconst C dL_law_652 1 (by decide +kernel) ?_
  refine z_iadd C dL_law_653 ?_
  refine z_sld C hX hbl (law_in (j := 1) (by decide +kernel) (by omega) hL) dL_law_654 ?_
  refine z_callV0 C [(wMx cI gm (mS v) (mAside v) (mBefore v) (mText v) (mLetters v) (mBys v) (mFirst v) (mCommand v) (mKnown v) (mLength v) (mLogLong v) (mAreSame v) (mAt v) (mIsWrong v) (mPosition v) (mReason v) (mCause v))] [wX cI gx x1] rfl rfl (met_X7_type l D cI gm v (xs (nI i + 1).toNatClampNeg) _ hw) y_X7_type mw_25_16 dL_law_655 rfl n_X7_type rfl (by decide) ⟨rfl, rfl, Nat.le_of_ble_eq_true rfl, Nat.le_of_ble_eq_true rfl⟩ (Nat.le_of_ble_eq_true rfl) (z_pm [1, 0] 2 rfl (by decide) rfl) ?_
  intro ⟨r1, v1⟩ hw
  try dsimp only at hw
  refine z_bs [(wMx cI gm (mS v1) (mAside v1) (mBefore v1) (mText v1) (mLetters v1) (mBys v1) (mFirst v1) (mCommand v1) (mKnown v1) (mLength v1) (mLogLong v1) (mAreSame v1) (mAt v1) (mIsWrong v1) (mPosition v1) (mReason v1) (mCause v1)), wX cI gx x1] [.int r1, .int r] rfl rfl ?_
  refine z_perm C [wX cI gx x1, (wMx cI gm (mS v1) (mAside v1) (mBefore v1) (mText v1) (mLetters v1) (mBys v1) (mFirst v1) (mCommand v1) (mKnown v1) (mLength v1) (mLogLong v1) (mAreSame v1) (mAt v1) (mIsWrong v1) (mPosition v1) (mReason v1) (mCause v1))] (z_pm [1, 0] 2 rfl (by decide) rfl) ?_
  refine z_icmp_eq C dL_law_658 712 (by decide) (fun h1 => ?_) (fun h1 => absurd hw.1 h1)
  exact hn _ _ hw.2
def op_clearText (Rel : zX → zM → Prop) : Prop := ∀ (x : zX) (v : zM), Rel x v → wp_X6_clearText x  (fun r x1 => wp_X7_clearText v  (fun r1 v1 => r = r1 ∧ Rel x1 v1))
set_option maxHeartbeats 4000000 in
set_option maxRecDepth 100000 in
theorem law_case_19 (C : LC p s m meth c D cI b) (hX : va_X b L xs s s.heap) (hbl : b < s.heap.size) (hL : L ≤ 2048) {Rel : zX → zM → Prop} (H : op_clearText Rel) {x : zX} {v : zM} (hR : Rel x v) {i : Nat} (hi : i + 4 ≤ L) (hn : ∀ x v, Rel x v → ZLW p l e s m below meth c D cI b gx gm x v 712 [some (.ref b), some (.ref (gx 0)), some (.ref (gm 0)), some (.int (nI i))] []) : ZLW p l e s m below meth c D cI b gx gm x v 663 [some (.ref b), some (.ref (gx 0)), some (.ref (gm 0)), some (.int (nI i))] [] := by
  have hw := H x v  hR
  refine z_aload_n C dL_law_663 rfl ?_
  refine z_callV0 C [wX cI gx x] [(wMx cI gm (mS v) (mAside v) (mBefore v) (mText v) (mLetters v) (mBys v) (mFirst v) (mCommand v) (mKnown v) (mLength v) (mLogLong v) (mAreSame v) (mAt v) (mIsWrong v) (mPosition v) (mReason v) (mCause v))] rfl rfl (met_X6_clearText l D cI gx x  _ hw) y_X6_clearText mw_25_20 dL_law_664 rfl n_X6_clearText rfl (by decide) ⟨rfl, rfl, Nat.le_of_ble_eq_true rfl, Nat.le_of_ble_eq_true rfl⟩ (Nat.le_of_ble_eq_true rfl) (z_pm [0, 1] 2 rfl (by decide) rfl) ?_
  intro ⟨r, x1⟩ hw
  try dsimp only at hw
  refine z_bs [wX cI gx x1, (wMx cI gm (mS v) (mAside v) (mBefore v) (mText v) (mLetters v) (mBys v) (mFirst v) (mCommand v) (mKnown v) (mLength v) (mLogLong v) (mAreSame v) (mAt v) (mIsWrong v) (mPosition v) (mReason v) (mCause v))] [.int r] rfl rfl ?_
  refine z_aload_n C dL_law_667 rfl ?_
  refine z_callV0 C [(wMx cI gm (mS v) (mAside v) (mBefore v) (mText v) (mLetters v) (mBys v) (mFirst v) (mCommand v) (mKnown v) (mLength v) (mLogLong v) (mAreSame v) (mAt v) (mIsWrong v) (mPosition v) (mReason v) (mCause v))] [wX cI gx x1] rfl rfl (met_X7_clearText l D cI gm v  _ hw) y_X7_clearText mw_26_1 dL_law_668 rfl n_X7_clearText rfl (by decide) ⟨rfl, rfl, Nat.le_of_ble_eq_true rfl, Nat.le_of_ble_eq_true rfl⟩ (Nat.le_of_ble_eq_true rfl) (z_pm [1, 0] 2 rfl (by decide) rfl) ?_
  intro ⟨r1, v1⟩ hw
  try dsimp only at hw
  refine z_bs [(wMx cI gm (mS v1) (mAside v1) (mBefore v1) (mText v1) (mLetters v1) (mBys v1) (mFirst v1) (mCommand v1) (mKnown v1) (mLength v1) (mLogLong v1) (mAreSame v1) (mAt v1) (mIsWrong v1) (mPosition v1) (mReason v1) (mCause v1)), wX cI gx x1] [.int r1, .int r] rfl rfl ?_
  refine z_perm C [wX cI gx x1, (wMx cI gm (mS v1) (mAside v1) (mBefore v1) (mText v1) (mLetters v1) (mBys v1) (mFirst v1) (mCommand v1) (mKnown v1) (mLength v1) (mLogLong v1) (mAreSame v1) (mAt v1) (mIsWrong v1) (mPosition v1) (mReason v1) (mCause v1))] (z_pm [1, 0] 2 rfl (by decide) rfl) ?_
  refine z_icmp_eq C dL_law_671 712 (by decide) (fun h1 => ?_) (fun h1 => absurd hw.1 h1)
  exact hn _ _ hw.2
def op_fault (Rel : zX → zM → Prop) : Prop := ∀ (x : zX) (v : zM) (a1 : Int32), Rel x v → wp_X6_fault x a1 (fun r x1 => wp_X7_fault v a1 (fun r1 v1 => r = r1 ∧ Rel x1 v1))
set_option maxHeartbeats 4000000 in
set_option maxRecDepth 100000 in
theorem law_case_20 (C : LC p s m meth c D cI b) (hX : va_X b L xs s s.heap) (hbl : b < s.heap.size) (hL : L ≤ 2048) {Rel : zX → zM → Prop} (H : op_fault Rel) {x : zX} {v : zM} (hR : Rel x v) {i : Nat} (hi : i + 4 ≤ L) (hn : ∀ x v, Rel x v → ZLW p l e s m below meth c D cI b gx gm x v 712 [some (.ref b), some (.ref (gx 0)), some (.ref (gm 0)), some (.int (nI i))] []) : ZLW p l e s m below meth c D cI b gx gm x v 676 [some (.ref b), some (.ref (gx 0)), some (.ref (gm 0)), some (.int (nI i))] [] := by
  have hw := H x v (xs (nI i + 1).toNatClampNeg) hR
  refine z_aload_n C dL_law_676 rfl ?_
  refine z_aload_n C dL_law_677 rfl ?_
  refine z_iload_n C dL_law_678 rfl ?_
  refine z_iconst C dL_law_679 1 (by decide +kernel) ?_
  refine z_iadd C dL_law_680 ?_
  refine z_sld C hX hbl (law_in (j := 1) (by decide +kernel) (by omega) hL) dL_law_681 ?_
  refine z_callV0 C [wX cI gx x] [(wMx cI gm (mS v) (mAside v) (mBefore v) (mText v) (mLetters v) (mBys v) (mFirst v) (mCommand v) (mKnown v) (mLength v) (mLogLong v) (mAreSame v) (mAt v) (mIsWrong v) (mPosition v) (mReason v) (mCause v))] rfl rfl (met_X6_fault l D cI gx x (xs (nI i + 1).toNatClampNeg) _ hw) y_X6_fault mw_26_5 dL_law_682 rfl n_X6_fault rfl (by decide) ⟨rfl, rfl, Nat.le_of_ble_eq_true rfl, Nat.le_of_ble_eq_true rfl⟩ (Nat.le_of_ble_eq_true rfl) (z_pm [0, 1] 2 rfl (by decide) rfl) ?_
  intro ⟨r, x1⟩ hw
  try dsimp only at hw
  refine z_bs [wX cI gx x1, (wMx cI gm (mS v) (mAside v) (mBefore v) (mText v) (mLetters v) (mBys v) (mFirst v) (mCommand v) (mKnown v) (mLength v) (mLogLong v) (mAreSame v) (mAt v) (mIsWrong v) (mPosition v) (mReason v) (mCause v))] [.int r] rfl rfl ?_
  refine z_aload_n C dL_law_685 rfl ?_
  refine z_aload_n C dL_law_686 rfl ?_
  refine z_iload_n C dL_law_687 rfl ?_
  refine z_iconst C dL_law_688 1 (by decide +kernel) ?_
  refine z_iadd C dL_law_689 ?_
  refine z_sld C hX hbl (law_in (j := 1) (by decide +kernel) (by omega) hL) dL_law_690 ?_
  refine z_callV0 C [(wMx cI gm (mS v) (mAside v) (mBefore v) (mText v) (mLetters v) (mBys v) (mFirst v) (mCommand v) (mKnown v) (mLength v) (mLogLong v) (mAreSame v) (mAt v) (mIsWrong v) (mPosition v) (mReason v) (mCause v))] [wX cI gx x1] rfl rfl (met_X7_fault l D cI gm v (xs (nI i + 1).toNatClampNeg) _ hw) y_X7_fault mw_27_17 dL_law_691 rfl n_X7_fault rfl (by decide) ⟨rfl, rfl, Nat.le_of_ble_eq_true rfl, Nat.le_of_ble_eq_true rfl⟩ (Nat.le_of_ble_eq_true rfl) (z_pm [1, 0] 2 rfl (by decide) rfl) ?_
  intro ⟨r1, v1⟩ hw
  try dsimp only at hw
  refine z_bs [(wMx cI gm (mS v1) (mAside v1) (mBefore v1) (mText v1) (mLetters v1) (mBys v1) (mFirst v1) (mCommand v1) (mKnown v1) (mLength v1) (mLogLong v1) (mAreSame v1) (mAt v1) (mIsWrong v1) (mPosition v1) (mReason v1) (mCause v1)), wX cI gx x1] [.int r1, .int r] rfl rfl ?_
  refine z_perm C [wX cI gx x1, (wMx cI gm (mS v1) (mAside v1) (mBefore v1) (mText v1) (mLetters v1) (mBys v1) (mFirst v1) (mCommand v1) (mKnown v1) (mLength v1) (mLogLong v1) (mAreSame v1) (mAt v1) (mIsWrong v1) (mPosition v1) (mReason v1) (mCause v1))] (z_pm [1, 0] 2 rfl (by decide) rfl) ?_
  refine z_icmp_eq C dL_law_694 712 (by decide) (fun h1 => ?_) (fun h1 => absurd hw.1 h1)
  exact hn _ _ hw.2
def op_play (Rel : zX → zM → Prop) : Prop := ∀ (x : zX) (v : zM), Rel x v → wp_X6_play x  (fun r x1 => wp_X7_play v  (fun r1 v1 => r = r1 ∧ Rel x1 v1))
set_option maxHeartbeats 4000000 in
set_option maxRecDepth 100000 in
theorem law_case_21 (C : LC p s m meth c D cI b) (hX : va_X b L xs s s.heap) (hbl : b < s.heap.size) (hL : L ≤ 2048) {Rel : zX → zM → Prop} (H : op_play Rel) {x : zX} {v : zM} (hR : Rel x v) {i : Nat} (hi : i + 4 ≤ L) (hn : ∀ x v, Rel x v → ZLW p l e s m below meth c D cI b gx gm x v 712 [some (.ref b), some (.ref (gx 0)), some (.ref (gm 0)), some (.int (nI i))] []) : ZLW p l e s m below meth c D cI b gx gm x v 699 [some (.ref b), some (.ref (gx 0)), some (.ref (gm 0)), some (.int (nI i))] [] := by
  have hw := H x v  hR
  refine z_aload_n C dL_law_699 rfl ?_
  refine z_callV0 C [wX cI gx x] [(wMx cI gm (mS v) (mAside v) (mBefore v) (mText v) (mLetters v) (mBys v) (mFirst v) (mCommand v) (mKnown v) (mLength v) (mLogLong v) (mAreSame v) (mAt v) (mIsWrong v) (mPosition v) (mReason v) (mCause v))] rfl rfl (met_X6_play l D cI gx x  _ hw) y_X6_play mw_29_2 dL_law_700 rfl n_X6_play rfl (by decide) ⟨rfl, rfl, Nat.le_of_ble_eq_true rfl, Nat.le_of_ble_eq_true rfl⟩ (Nat.le_of_ble_eq_true rfl) (z_pm [0, 1] 2 rfl (by decide) rfl) ?_
  intro ⟨r, x1⟩ hw
  try dsimp only at hw
  refine z_bs [wX cI gx x1, (wMx cI gm (mS v) (mAside v) (mBefore v) (mText v) (mLetters v) (mBys v) (mFirst v) (mCommand v) (mKnown v) (mLength v) (mLogLong v) (mAreSame v) (mAt v) (mIsWrong v) (mPosition v) (mReason v) (mCause v))] [.int r] rfl rfl ?_
  refine z_aload_n C dL_law_703 rfl ?_
  refine z_callV0 C [(wMx cI gm (mS v) (mAside v) (mBefore v) (mText v) (mLetters v) (mBys v) (mFirst v) (mCommand v) (mKnown v) (mLength v) (mLogLong v) (mAreSame v) (mAt v) (mIsWrong v) (mPosition v) (mReason v) (mCause v))] [wX cI gx x1] rfl rfl (met_X7_play l D cI gm v  _ hw) y_X7_play mw_29_6 dL_law_704 rfl n_X7_play rfl (by decide) ⟨rfl, rfl, Nat.le_of_ble_eq_true rfl, Nat.le_of_ble_eq_true rfl⟩ (Nat.le_of_ble_eq_true rfl) (z_pm [1, 0] 2 rfl (by decide) rfl) ?_
  intro ⟨r1, v1⟩ hw
  try dsimp only at hw
  refine z_bs [(wMx cI gm (mS v1) (mAside v1) (mBefore v1) (mText v1) (mLetters v1) (mBys v1) (mFirst v1) (mCommand v1) (mKnown v1) (mLength v1) (mLogLong v1) (mAreSame v1) (mAt v1) (mIsWrong v1) (mPosition v1) (mReason v1) (mCause v1)), wX cI gx x1] [.int r1, .int r] rfl rfl ?_
  refine z_perm C [wX cI gx x1, (wMx cI gm (mS v1) (mAside v1) (mBefore v1) (mText v1) (mLetters v1) (mBys v1) (mFirst v1) (mCommand v1) (mKnown v1) (mLength v1) (mLogLong v1) (mAreSame v1) (mAt v1) (mIsWrong v1) (mPosition v1) (mReason v1) (mCause v1))] (z_pm [1, 0] 2 rfl (by decide) rfl) ?_
  refine z_icmp_eq C dL_law_707 712 (by decide) (fun h1 => ?_) (fun h1 => absurd hw.1 h1)
  exact hn _ _ hw.2
def Ops (Rel : zX → zM → Prop) : Prop := op_insert Rel ∧ op_delete Rel ∧ op_takeBack Rel ∧ op_mark Rel ∧ op_send Rel ∧ op_hear Rel ∧ op_hearAll Rel ∧ op_clear Rel ∧ op_letter Rel ∧ op_editorOf Rel ∧ op_waitingOf Rel ∧ op_logOf Rel ∧ op_by Rel ∧ op_count Rel ∧ op_inTheEnd Rel ∧ op_both Rel ∧ op_wouldSend Rel ∧ op_undo Rel ∧ op_type Rel ∧ op_clearText Rel ∧ op_fault Rel ∧ op_play Rel
set_option maxHeartbeats 4000000 in
set_option maxRecDepth 100000 in
theorem law_loop (C : LC p s m meth c D cI b) (hX : va_X b L xs s s.heap) (hbl : b < s.heap.size) (hL : L ≤ 2048) {Rel : zX → zM → Prop} (H : Ops Rel) : ∀ (n i : Nat) (x : zX) (v : zM), i ≤ L + 4 → L + 8 ≤ i + n → Rel x v → ZLW p l e s m below meth c D cI b gx gm x v 18 [some (.ref b), some (.ref (gx 0)), some (.ref (gm 0)), some (.int (nI i))] [] := by
  intro n
  induction n with
  | zero => intro i x v h1 h2; omega
  | succ n ih =>
    intro i x v h1 h2 hR
    refine z_iload_n C dL_law_18 rfl ?_
    refine z_aload_n C dL_law_19 rfl ?_
    refine z_slen C hX hbl dL_law_20 ?_
    refine z_iconst C dL_law_21 4 (by decide +kernel) ?_
    refine z_isub C dL_law_22 ?_
    have hs : (nI L - 4).toInt = (L : Int) - 4 := by
      have := pk_sub_toInt (a := L) (b := 4) (by omega) (by omega)
      exact this
    have hi0 : (nI i).toInt = (i : Int) := nI_toInt (by omega)
    refine z_icmp_gt C dL_law_23 718 (by decide) (fun h3 => ?_) (fun h3 => ?_)
    · refine z_iconst C dL_law_718 1 (by decide +kernel) ?_
      exact z_lret C (by decide) (by decide) dL_law_719
    · have hi : i + 4 ≤ L := by
        rw [Int32.lt_iff_toInt_lt, hs, hi0] at h3
        omega
      refine z_aload_n C dL_law_26 rfl ?_
      refine z_iload_n C dL_law_27 rfl ?_
      refine z_sld C hX hbl (vp_in_nI (by omega) (by omega)) dL_law_28 ?_
      refine z_bipush C dL_law_29 31 (by decide +kernel) ?_
      refine z_iand C dL_law_31 ?_
      have hn : ∀ x v, Rel x v → ZLW p l e s m below meth c D cI b gx gm x v 712 [some (.ref b), some (.ref (gx 0)), some (.ref (gm 0)), some (.int (nI i))] [] := by
        intro x v hR
        refine z_iinc C dL_law_712 rfl (nI (i + 4)) (by rw [show Int32.ofInt 4 = nI 4 by decide +kernel, nI_add]) [some (.ref b), some (.ref (gx 0)), some (.ref (gm 0)), some (.int (nI (i + 4)))] (by decide) rfl ?_
        refine z_goto C dL_law_715 18 (by decide) ?_
        exact ih (i + 4) x v (by omega) (by omega) hR
      obtain ⟨H0, H1, H2, H3, H4, H5, H6, H7, H8, H9, H10, H11, H12, H13, H14, H15, H16, H17, H18, H19, H20, H21⟩ := H
      generalize xs (nI i).toNatClampNeg &&& 31 = y
      by_cases h100 : y = 0
      · refine z_tableAt C dL_law_32 0 h100 (by decide) (by decide) 104 rfl 136 (by decide) ?_
        exact law_case_0 C hX hbl hL H0 hR hi hn
      by_cases h101 : y = 1
      · refine z_tableAt C dL_law_32 1 h101 (by decide) (by decide) 147 rfl 179 (by decide) ?_
        exact law_case_1 C hX hbl hL H1 hR hi hn
      by_cases h102 : y = 2
      · refine z_tableAt C dL_law_32 2 h102 (by decide) (by decide) 180 rfl 212 (by decide) ?_
        exact law_case_2 C hX hbl hL H2 hR hi hn
      by_cases h103 : y = 3
      · refine z_tableAt C dL_law_32 3 h103 (by decide) (by decide) 203 rfl 235 (by decide) ?_
        exact law_case_3 C hX hbl hL H3 hR hi hn
      by_cases h104 : y = 4
      · refine z_tableAt C dL_law_32 4 h104 (by decide) (by decide) 236 rfl 268 (by decide) ?_
        exact law_case_4 C hX hbl hL H4 hR hi hn
      by_cases h105 : y = 5
      · refine z_tableAt C dL_law_32 5 h105 (by decide) (by decide) 259 rfl 291 (by decide) ?_
        exact law_case_5 C hX hbl hL H5 hR hi hn
      by_cases h106 : y = 6
      · refine z_tableAt C dL_law_32 6 h106 (by decide) (by decide) 282 rfl 314 (by decide) ?_
        exact law_case_6 C hX hbl hL H6 hR hi hn
      by_cases h107 : y = 7
      · refine z_tableAt C dL_law_32 7 h107 (by decide) (by decide) 305 rfl 337 (by decide) ?_
        exact law_case_7 C hX hbl hL H7 hR hi hn
      by_cases h108 : y = 8
      · refine z_tableAt C dL_law_32 8 h108 (by decide) (by decide) 318 rfl 350 (by decide) ?_
        exact law_case_8 C hX hbl hL H8 hR hi hn
      by_cases h109 : y = 9
      · refine z_tableAt C dL_law_32 9 h109 (by decide) (by decide) 351 rfl 383 (by decide) ?_
        exact law_case_9 C hX hbl hL H9 hR hi hn
      by_cases h110 : y = 10
      · refine z_tableAt C dL_law_32 10 h110 (by decide) (by decide) 384 rfl 416 (by decide) ?_
        exact law_case_10 C hX hbl hL H10 hR hi hn
      by_cases h111 : y = 11
      · refine z_tableAt C dL_law_32 11 h111 (by decide) (by decide) 427 rfl 459 (by decide) ?_
        exact law_case_11 C hX hbl hL H11 hR hi hn
      by_cases h112 : y = 12
      · refine z_tableAt C dL_law_32 12 h112 (by decide) (by decide) 460 rfl 492 (by decide) ?_
        exact law_case_12 C hX hbl hL H12 hR hi hn
      by_cases h113 : y = 13
      · refine z_tableAt C dL_law_32 13 h113 (by decide) (by decide) 483 rfl 515 (by decide) ?_
        exact law_case_13 C hX hbl hL H13 hR hi hn
      by_cases h114 : y = 14
      · refine z_tableAt C dL_law_32 14 h114 (by decide) (by decide) 506 rfl 538 (by decide) ?_
        exact law_case_14 C hX hbl hL H14 hR hi hn
      by_cases h115 : y = 15
      · refine z_tableAt C dL_law_32 15 h115 (by decide) (by decide) 539 rfl 571 (by decide) ?_
        exact law_case_15 C hX hbl hL H15 hR hi hn
      by_cases h116 : y = 16
      · refine z_tableAt C dL_law_32 16 h116 (by decide) (by decide) 562 rfl 594 (by decide) ?_
        exact law_case_16 C hX hbl hL H16 hR hi hn
      by_cases h117 : y = 17
      · refine z_tableAt C dL_law_32 17 h117 (by decide) (by decide) 595 rfl 627 (by decide) ?_
        exact law_case_17 C hX hbl hL H17 hR hi hn
      by_cases h118 : y = 18
      · refine z_tableAt C dL_law_32 18 h118 (by decide) (by decide) 608 rfl 640 (by decide) ?_
        exact law_case_18 C hX hbl hL H18 hR hi hn
      by_cases h119 : y = 19
      · refine z_tableAt C dL_law_32 19 h119 (by decide) (by decide) 631 rfl 663 (by decide) ?_
        exact law_case_19 C hX hbl hL H19 hR hi hn
      by_cases h120 : y = 20
      · refine z_tableAt C dL_law_32 20 h120 (by decide) (by decide) 644 rfl 676 (by decide) ?_
        exact law_case_20 C hX hbl hL H20 hR hi hn
      by_cases h121 : y = 21
      · refine z_tableAt C dL_law_32 21 h121 (by decide) (by decide) 667 rfl 699 (by decide) ?_
        exact law_case_21 C hX hbl hL H21 hR hi hn
      refine z_tableOut C dL_law_32 (by
        have n100 := lv_neT (a := 0) h100 rfl
        have n101 := lv_neT (a := 1) h101 rfl
        have n102 := lv_neT (a := 2) h102 rfl
        have n103 := lv_neT (a := 3) h103 rfl
        have n104 := lv_neT (a := 4) h104 rfl
        have n105 := lv_neT (a := 5) h105 rfl
        have n106 := lv_neT (a := 6) h106 rfl
        have n107 := lv_neT (a := 7) h107 rfl
        have n108 := lv_neT (a := 8) h108 rfl
        have n109 := lv_neT (a := 9) h109 rfl
        have n110 := lv_neT (a := 10) h110 rfl
        have n111 := lv_neT (a := 11) h111 rfl
        have n112 := lv_neT (a := 12) h112 rfl
        have n113 := lv_neT (a := 13) h113 rfl
        have n114 := lv_neT (a := 14) h114 rfl
        have n115 := lv_neT (a := 15) h115 rfl
        have n116 := lv_neT (a := 16) h116 rfl
        have n117 := lv_neT (a := 17) h117 rfl
        have n118 := lv_neT (a := 18) h118 rfl
        have n119 := lv_neT (a := 19) h119 rfl
        have n120 := lv_neT (a := 20) h120 rfl
        have n121 := lv_neT (a := 21) h121 rfl
        omega) 712 (by decide) ?_
      exact hn x v hR
end LW
theorem z_nest_in : ∀ w ∈ z_nest, w ∈ lw_tbl := by decide +kernel
set_option maxHeartbeats 4000000 in
set_option maxRecDepth 100000 in
theorem law_start {Rel : zX → zM → Prop} (H : Ops Rel) (H0 : ∀ gh, Rel (x0 gh) m0) {p : Program} {e : Env} {s : State} {m : MethodId} {below : List Frame} {meth : Method} {c : Code} (l : Launch) {b L : Nat} {xs : Nat → Int32} (hL : L ≤ 2048) (C0 : lw_At p s m meth c b L xs) : W p l e room_1 s m #[Value.ref b] below meth c s.heap [] 0 0 (lw_Z below #[Value.ref b] s) (entryFrame m ([Value.ref b] : List Value).toArray 4) := by
  obtain ⟨hx, hb, hr, hml, hown, hts0, hX, hbl, hlocks, hgv⟩ := C0
  have hts : ∀ w ∈ wsL_law, w.before #[Value.ref b] s = true := fun w h => hts0 w (wsL_law_in w h)
  obtain ⟨c1, i1, k1⟩ := u_known (C := RX1) (T := TX1) (N := 6) (n := 6) hts inlX1 (hts _ mw_2_0)
  obtain ⟨c2, i2, k2⟩ := u_known (C := RX2) (T := TX2) (N := 8) (n := 8) hts inlX2 (hts _ mw_2_8)
  obtain ⟨c3, i3, k3⟩ := u_known (C := RX3) (T := TX3) (N := 6) (n := 6) hts inlX3 (hts _ mw_1_20)
  obtain ⟨c4, i4, k4⟩ := u_known (C := RX4) (T := TX4) (N := 2) (n := 2) hts inlX4 (hts _ mw_2_14)
  obtain ⟨c5, i5, k5⟩ := u_known (C := RX5) (T := TX5) (N := 6) (n := 6) hts inlX5 (hts _ mw_1_13)
  obtain ⟨c6, i6, k6⟩ := u_known (C := RX6) (T := TX6) (N := 6) (n := 6) hts inlX6 (hts _ mw_1_1)
  obtain ⟨c7, i7, k7⟩ := u_known (C := RX7) (T := TX7) (N := 17) (n := 17) hts inlX7 (hts _ mw_1_4)
  obtain ⟨cI, kA, comp, a1, a2, a3⟩ := Cond.arrayClass_spec (hts _ mw_3_12)
  obtain ⟨D, hKc⟩ : ∃ D : va_G, ∀ (k : Nat) (q : vw_C), vwCl[k]? = some q → u_Kn s q.1 q.2.1 q.2.2 (D.1 k) (D.2 k) := by
    refine ⟨(fun k => match k with | 0 => c1 | 1 => c2 | 2 => c3 | 3 => c4 | 4 => c5 | 5 => c6 | _ => c7, fun k => match k with | 0 => i1 | 1 => i2 | 2 => i3 | 3 => i4 | 4 => i5 | 5 => i6 | _ => i7), ?_⟩
    intro k q hq
    match k, hq with
    | 0, hq => cases hq; exact k1
    | 1, hq => cases hq; exact k2
    | 2, hq => cases hq; exact k3
    | 3, hq => cases hq; exact k4
    | 4, hq => cases hq; exact k5
    | 5, hq => cases hq; exact k6
    | 6, hq => cases hq; exact k7
    | k + 7, hq => simp [vwCl] at hq
  have hK : va_K D vwCl (z_tys cI) s := by
    refine ⟨hKc, fun k q h => ?_⟩
    match k, h with
    | 0, h => cases h; exact ⟨fun n z => ⟨fun k h => (by cases h), kA, a2, comp, a3⟩, a1⟩
    | k + 1, h => simp at h
  have hN : z_nestOK s := fun w hw => va_Nw.of (List.all_eq_true.mp z_nest_on w hw) (hts0 w (z_nest_in w hw))
  have C : LC p s m meth c D cI b := ⟨⟨hx, hb, hml, hown, hts⟩, hK, hN, fun _ h => h, hlocks, hr⟩
  have K : ZZ p l e room_1 s m #[Value.ref b] below meth c D (fun q : Nat => s.heap.size ≤ q) 4 0 0 (lw_Z below #[Value.ref b] s) [] 0 [some (.ref b), none, none, none] [] := by
    refine z_new (ci := 5) C inlX6 rfl tyX6 tyX6_ok mw_1_0 mw_1_1 mw_1_2 [.null, .null, .null, .null, .null, .null] (fun j hj => by rcases (show j = 0 ∨ j = 1 ∨ j = 2 ∨ j = 3 ∨ j = 4 ∨ j = 5 by omega) with rfl | rfl | rfl | rfl | rfl | rfl <;> rfl) ⟨Nat.le_of_ble_eq_true rfl, Nat.le_of_ble_eq_true rfl⟩ dL_law_0 (fun qx => ?_)
    refine z_bs [[(qx, .inr (5, [.null, .null, .null, .null, .null, .null]))]] [.ref qx] rfl rfl ?_
    refine z_dup C dL_law_3 rfl ?_
    refine z_callI (yr := none) C (wc := [[(qx, .inr (5, [.null, .null, .null, .null, .null, .null]))]]) (wr := []) (met_X6_init l D cI qx) y_X6_init mw_1_6 dL_law_4 rfl n_X6_init (by decide) ⟨Nat.le_of_ble_eq_true rfl, Nat.le_of_ble_eq_true rfl⟩ (Nat.le_of_ble_eq_true rfl) (List.Perm.refl _) ?_
    intro ⟨gx, gh⟩ hgx
    try dsimp only at hgx
    subst hgx
    refine z_bs [wX cI gx (x0 gh)] [.ref (gx 0)] rfl rfl ?_
    refine z_astore_n C dL_law_7 [some (.ref b), some (.ref (gx 0)), none, none] (by decide) rfl ?_
    refine z_new (ci := 6) C inlX7 rfl tyX7 tyX7_ok mw_1_3 mw_1_4 mw_1_5 [.null, .null, .null, .int 0, .null, .int 0, .null, .null, .int 0, .int 0, .null, .int 0, .int 0, .null, .int 0, .int 0, .int 0] (fun j hj => by rcases (show j = 0 ∨ j = 1 ∨ j = 2 ∨ j = 3 ∨ j = 4 ∨ j = 5 ∨ j = 6 ∨ j = 7 ∨ j = 8 ∨ j = 9 ∨ j = 10 ∨ j = 11 ∨ j = 12 ∨ j = 13 ∨ j = 14 ∨ j = 15 ∨ j = 16 by omega) with rfl | rfl | rfl | rfl | rfl | rfl | rfl | rfl | rfl | rfl | rfl | rfl | rfl | rfl | rfl | rfl | rfl <;> rfl) ⟨Nat.le_of_ble_eq_true rfl, Nat.le_of_ble_eq_true rfl⟩ dL_law_8 (fun qm => ?_)
    refine z_bs [wX cI gx (x0 gh), [(qm, .inr (6, [.null, .null, .null, .int 0, .null, .int 0, .null, .null, .int 0, .int 0, .null, .int 0, .int 0, .null, .int 0, .int 0, .int 0]))]] [.ref qm] rfl rfl ?_
    refine z_dup C dL_law_11 rfl ?_
    refine z_callI (yr := none) C (wc := [[(qm, .inr (6, [.null, .null, .null, .int 0, .null, .int 0, .null, .null, .int 0, .int 0, .null, .int 0, .int 0, .null, .int 0, .int 0, .int 0]))]]) (wr := [wX cI gx (x0 gh)]) (met_X7_init l D cI qm) y_X7_init mw_4_11 dL_law_12 rfl n_X7_init (by decide) ⟨Nat.le_of_ble_eq_true rfl, Nat.le_of_ble_eq_true rfl⟩ (Nat.le_of_ble_eq_true rfl) (z_pm [1, 0] 2 rfl (by decide) rfl) ?_
    intro gm hgm
    try dsimp only at hgm
    subst hgm
    refine z_bs [(wMx cI gm (mS m0) (mAside m0) (mBefore m0) (mText m0) (mLetters m0) (mBys m0) (mFirst m0) (mCommand m0) (mKnown m0) (mLength m0) (mLogLong m0) (mAreSame m0) (mAt m0) (mIsWrong m0) (mPosition m0) (mReason m0) (mCause m0)), wX cI gx (x0 gh)] [.ref (gm 0)] rfl rfl ?_
    refine z_perm C [wX cI gx (x0 gh), (wMx cI gm (mS m0) (mAside m0) (mBefore m0) (mText m0) (mLetters m0) (mBys m0) (mFirst m0) (mCommand m0) (mKnown m0) (mLength m0) (mLogLong m0) (mAreSame m0) (mAt m0) (mIsWrong m0) (mPosition m0) (mReason m0) (mCause m0))] (z_pm [1, 0] 2 rfl (by decide) rfl) ?_
    refine z_astore_n C dL_law_15 [some (.ref b), some (.ref (gx 0)), some (.ref (gm 0)), none] (by decide) rfl ?_
    refine z_iconst C dL_law_16 0 (by decide +kernel) ?_
    refine z_istore_n C dL_law_17 [some (.ref b), some (.ref (gx 0)), some (.ref (gm 0)), some (.int (nI 0))] (by decide) rfl ?_
    exact law_loop C hX hbl hL H (L + 8) 0 (x0 gh) m0 (by omega) (by omega) (H0 gh)
  rw [lg_entry_eq]
  exact K s.heap [] _ (fun k q h => by simp at h) ⟨fun i j p q h => by simp at h, fun k q h => by simp at h⟩ va_S.rf (zL.entry [.ref b] (z_vals (v := .int 0) rfl) (Nat.le_of_ble_eq_true rfl) _ rfl)
