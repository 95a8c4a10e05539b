/-! the reference reads a text of commands -/
/-- what reading keeps -/
def fr (w w1 : zM) : Prop := mS w1 = mS w ∧ mAside w1 = mAside w ∧ mBefore w1 = mBefore w ∧ mText w1 = mText w ∧ mKnown w1 = mKnown w ∧ mLength w1 = mLength w ∧ mPosition w1 = mPosition w
theorem fr.refl {w : zM} : fr w w := ⟨rfl, rfl, rfl, rfl, rfl, rfl, rfl⟩
theorem fr.trans {w w1 w2 : zM} (h : fr w w1) (h2 : fr w1 w2) : fr w w2 := ⟨h2.1.trans h.1, h2.2.1.trans h.2.1, h2.2.2.1.trans h.2.2.1, h2.2.2.2.1.trans h.2.2.2.1, h2.2.2.2.2.1.trans h.2.2.2.2.1, h2.2.2.2.2.2.1.trans h.2.2.2.2.2.1, h2.2.2.2.2.2.2.trans h.2.2.2.2.2.2⟩
theorem fr.at {w : zM} (x y : Int32) : fr w (mSetIsWrong (mSetAt w x) y) := ⟨rfl, rfl, rfl, rfl, rfl, rfl, rfl⟩
theorem fr.cmd {w : zM} (x : Nat → Int32) : fr w (mSetCommand w x) := ⟨rfl, rfl, rfl, rfl, rfl, rfl, rfl⟩
/-- the text -/
def TX (w : zM) (cmds : List Nat) : Prop := mLength w = nI cmds.length ∧ rowAt (mText w) 0 nI cmds
theorem TX.fr {w w1 : zM} {cmds : List Nat} (h : TX w cmds) (k : fr w w1) : TX w1 cmds := ⟨by rw [k.2.2.2.2.2.1]; exact h.1, by rw [k.2.2.2.1]; exact h.2⟩
section MREAD
variable {w : zM} {cmds : List Nat}
theorem m_chr {P : Int32 → Prop} (ht : TX w cmds) (hc : charOK cmds) {pos : Nat} (hp : pos ≤ 200) (hat : mAt w = nI pos) (hP : P (nI (chA cmds pos))) : ((mLength w) ≤ (mAt w) → P 0) ∧ (¬ (mLength w) ≤ (mAt w) → (vp_in (mAt w) 60 ∧ P ((mText w) (mAt w).toNatClampNeg))) := by
  have hl := hc.1
  rw [ht.1, hat]
  refine pk_le cmds.length pos (fun q => ?_) (fun q => ⟨vp_in_nI (by omega) (by omega), ?_⟩)
  · have : chA cmds pos = 0 := by
      unfold chA
      rw [List.getD_eq_getElem?_getD, List.getElem?_eq_none q]; rfl
    rw [this] at hP
    exact hP
  · have := ht.2 pos (chA cmds pos) (by
      unfold chA
      rw [List.getD_eq_getElem?_getD, List.getElem?_eq_getElem q]; rfl)
    rw [Nat.zero_add] at this
    rw [nI_clamp (by omega), this]
    exact hP
theorem m_sign (ht : TX w cmds) (hc : charOK cmds) {pos lo hi : Nat} (hp : pos ≤ 200) (hat : mAt w = nI pos) (hlo : lo ≤ 200) (hhi : hi ≤ 200) {Q : Int32 → zM → Prop} (hok : mIsWrong w = 0 → lo ≤ chA cmds pos → chA cmds pos ≤ hi → ∀ w1, fr w w1 → mCommand w1 = mCommand w → mAt w1 = nI (pos + 1) → mIsWrong w1 = 0 → Q (nI (chA cmds pos)) w1) (hbad : ¬ (mIsWrong w = 0 ∧ lo ≤ chA cmds pos ∧ chA cmds pos ≤ hi) → ∀ (r : Int32) w1, fr w w1 → mAt w1 = nI pos → mIsWrong w1 = 1 → Q r w1) : wp_X7_sign w (nI lo) (nI hi) Q := by
  have hle := chA_le hc pos
  unfold wp_X7_sign
  refine m_chr (P := fun c => jn_X7_sign_24 w (nI lo) (nI hi) c Q) ht hc hp hat ?_
  have b1 : ¬ (mIsWrong w = 0 ∧ lo ≤ chA cmds pos ∧ chA cmds pos ≤ hi) → jn_X7_sign_42 w (nI lo) (nI hi) (nI (chA cmds pos)) Q := by
    intro q
    unfold jn_X7_sign_42 jn_X7_sign_47
    refine ⟨zB_bI true, fun z => absurd z (by decide), fun _ => ?_⟩
    rw [hat, li 0, nI_add]
    exact hbad q _ _ (fr.at _ _) rfl rfl
  unfold jn_X7_sign_24
  refine ⟨fun q => b1 (fun z => q z.1), fun q0 => in_1 (fun q => b1 (fun z => ?_)) (fun q => ?_)⟩
  · rcases q with q | q
    · rw [nI_ltI (by omega) (by omega)] at q; omega
    · rw [nI_ltI (by omega) (by omega)] at q; omega
  · have q1 : ¬ nI (chA cmds pos) < nI lo := fun z => q (Or.inl z)
    have q2 : ¬ nI hi < nI (chA cmds pos) := fun z => q (Or.inr z)
    rw [nI_ltI (by omega) (by omega)] at q1 q2
    unfold jn_X7_sign_47
    refine ⟨zB_bI false, fun _ => ?_, fun z => absurd rfl z⟩
    rw [hat, nI_1]
    exact hok q0 (by omega) (by omega) _ (fr.at _ _) rfl rfl rfl
theorem m_number (ht : TX w cmds) (hc : charOK cmds) {pos : Nat} (hp : pos ≤ 190) (hat : mAt w = nI pos) (h0 : mIsWrong w = 0) {Q : Int32 → zM → Prop} (h2 : isD (chA cmds pos) = true → isD (chA cmds (pos + 1)) = true → ∀ w1, fr w w1 → mCommand w1 = mCommand w → mAt w1 = nI (pos + 2) → mIsWrong w1 = 0 → Q (nI ((chA cmds pos - 48) * 10 + (chA cmds (pos + 1) - 48))) w1) (h1 : isD (chA cmds pos) = true → ¬ isD (chA cmds (pos + 1)) = true → ∀ w1, fr w w1 → mCommand w1 = mCommand w → mAt w1 = nI (pos + 1) → mIsWrong w1 = 0 → Q (nI (chA cmds pos - 48)) w1) (hbad : ¬ isD (chA cmds pos) = true → ∀ (r : Int32) w1, fr w w1 → mAt w1 = nI pos → mIsWrong w1 = 1 → Q r w1) : wp_X7_number w Q := by
  have hle := chA_le hc pos
  have hle1 := chA_le hc (pos + 1)
  unfold wp_X7_number
  refine m_sign (lo := 48) (hi := 57) ht hc (by omega) hat (by omega) (by omega) (fun _ q1 q2 w1 f1 c1 a1 z1 x3 hx3 => ?_) (fun q r w1 f1 a1 z1 x3 hx3 => ?_)
  · have d0 : isD (chA cmds pos) = true := isD_iff.mpr ⟨q1, q2⟩
    rw [li 48, pk_sub q1] at hx3
    subst hx3
    have ht1 := ht.fr f1
    rw [z1]
    refine ⟨fun z => absurd rfl z, fun _ => ?_⟩
    have jn53 : ¬ isD (chA cmds (pos + 1)) = true → jn_X7_number_53 w (nI (chA cmds pos - 48)) w1 Q := by
      intro q
      unfold jn_X7_number_53 jn_X7_number_54
      exact ⟨fun _ => h1 d0 q w1 f1 c1 a1 z1, fun z => absurd rfl z⟩
    have ch := m_chr (w := w1) (P := fun c => (f_X7_in c 48 57 = 0 → jn_X7_number_53 w (nI (chA cmds pos - 48)) w1 Q) ∧ (¬ f_X7_in c 48 57 = 0 → jn_X7_number_54 w (nI (chA cmds pos - 48)) w1 1 Q)) ht1 hc (by omega) a1 (in_0 (fun q => jn53 (fun z => ?_)) (fun q => ?_))
    · refine ⟨fun q => ?_, fun q => ch.2 q⟩
      refine jn53 (fun z => ?_)
      rw [ht1.1, a1, nI_leI (by have := hc.1; omega) (by omega)] at q
      have hz : chA cmds (pos + 1) = 0 := by
        unfold chA
        rw [List.getD_eq_getElem?_getD, List.getElem?_eq_none q]; rfl
      rw [hz] at z
      exact absurd z (by decide)
    · have z := isD_iff.mp z
      rcases q with q | q
      · rw [li 48, nI_ltI (by omega) (by omega)] at q; omega
      · rw [li 57, nI_ltI (by omega) (by omega)] at q; omega
    · have q1' : ¬ nI (chA cmds (pos + 1)) < 48 := fun z => q (Or.inl z)
      have q2' : ¬ 57 < nI (chA cmds (pos + 1)) := fun z => q (Or.inr z)
      rw [li 48, nI_ltI (by omega) (by omega)] at q1'
      rw [li 57, nI_ltI (by omega) (by omega)] at q2'
      have d1 : isD (chA cmds (pos + 1)) = true := isD_iff.mpr ⟨by omega, by omega⟩
      unfold jn_X7_number_54
      refine ⟨fun z => absurd z (by decide), fun _ => ?_⟩
      refine m_sign (lo := 48) (hi := 57) ht1 hc (by omega) a1 (by omega) (by omega) (fun _ s1 s2 w2 f2 c2 a2 z2 => ?_) (fun s r w2 f2 a2 z2 => ?_)
      · have e : (10 : Int32) * nI (chA cmds pos - 48) + nI (chA cmds (pos + 1)) - 48 = nI ((chA cmds pos - 48) * 10 + (chA cmds (pos + 1) - 48)) := by
          rw [li 10, li 48, pk_mul, nI_add, pk_sub (by omega)]
          refine congrArg nI ?_
          omega
        rw [e]
        exact h2 d0 d1 w2 (f1.trans f2) (c2.trans c1) a2 z2
      · exact absurd ⟨z1, by omega, by omega⟩ s
  · refine ⟨fun _ => ?_, fun z => absurd (z1 ▸ z) (by decide)⟩
    unfold jn_X7_number_53 jn_X7_number_54
    refine ⟨fun _ => hbad (fun d => q ?_) _ w1 f1 a1 z1, fun z => absurd rfl z⟩
    have := isD_iff.mp d
    exact ⟨h0, by omega, by omega⟩
def preN (L : List Nat) (r : Option (List Nat × Nat)) : Option (List Nat × Nat) := r.map (fun q => (L ++ q.1, q.2))
theorem preN_cons (L : List Nat) (x : Nat) (r : Option (List Nat × Nat)) : preN L (consN x r) = preN (L ++ [x]) r := by
  unfold preN consN
  cases r with
  | none => rfl
  | some q => simp
theorem consN_pre (x : Nat) (r : Option (List Nat × Nat)) : consN x r = preN [x] r := by
  unfold preN consN
  cases r <;> rfl
theorem m_readN (ht0 : TX w cmds) (hc : charOK cmds) {pos n : Nat} (hp : pos ≤ 100) (hn : 1 ≤ n) (hn3 : n ≤ 3) {vv : zM} {Q : zM → Prop} {tg : Option (List Nat × Nat)} (h0 : (mIsWrong w = 1 ∧ tg = none ∧ ∃ p, p ≤ 100 ∧ mAt w = nI p) ∨ (mIsWrong w = 0 ∧ mAt w = nI pos ∧ tg = rdN cmds n pos)) (hsome : ∀ L nx, tg = some (L, nx) → ∀ w1, fr w w1 → mIsWrong w1 = 0 → mAt w1 = nI nx → mCommand w1 0 = mCommand w 0 → (∀ (t x : Nat), L[t]? = some x → mCommand w1 (t + 1) = nI x) → Q w1) (hnone : tg = none → ∀ w1, fr w w1 → mIsWrong w1 = 1 → Q w1) : zLoop2 (lb_X7_read_116 vv (nI n) Q) 1 w := by
  refine zLoop2_i (fun v3 u => ∃ i : Nat, v3 = nI i ∧ 1 ≤ i ∧ i ≤ n + 1 ∧ fr w u ∧ ((mIsWrong u = 1 ∧ tg = none ∧ ∃ p, p ≤ 130 ∧ mAt u = nI p) ∨ (mIsWrong u = 0 ∧ mCommand u 0 = mCommand w 0 ∧ ∃ (p : Nat) (L : List Nat), p ≤ 100 + 3 * i ∧ mAt u = nI p ∧ L.length = i - 1 ∧ (∀ (t x : Nat), L[t]? = some x → mCommand u (t + 1) = nI x) ∧ tg = if i = 1 then rdN cmds n p else if chA cmds p = sepC (n + 1 - i) then preN L (rdN cmds (n + 1 - i) (p + 1)) else none))) (fun v3 _ => n + 1 - v3.toNatClampNeg) ?_ _ _ ⟨1, rfl, by omega, by omega, fr.refl, ?_⟩
  · rintro K v3 u ⟨i, rfl, hi1, hi2, hf, hst⟩ hK
    have htu := ht0.fr hf
    -- the wrong end
    have wrongEnd : mIsWrong u = 1 → tg = none → (∃ p, p ≤ 130 ∧ mAt u = nI p) → wp_X7_sign u 59 59 (fun _ u8 => Q u8) := by
      rintro hw htg ⟨p, hp2, hpu⟩
      refine m_sign (lo := 59) (hi := 59) htu hc (by omega) hpu (by omega) (by omega) (fun q => absurd (hw ▸ q) (by decide)) (fun _ r w1 f1 a1 z1 => hnone htg w1 (hf.trans f1) z1)
    unfold lb_X7_read_116
    refine pk_lt n i (fun hlt => ?_) (fun hge => ?_)
    · have e : i = n + 1 := by omega
      subst e
      rcases hst with ⟨hw, htg, hpp⟩ | ⟨hw, hc0, p, L, hp2, hpu, hL, hcm, htg⟩
      · exact wrongEnd hw htg hpp
      · rw [if_neg (by omega), show n + 1 - (n + 1) = 0 by omega] at htg
        have hs : sepC 0 = 59 := rfl
        rw [hs] at htg
        refine m_sign (lo := 59) (hi := 59) htu hc (by omega) hpu (by omega) (by omega) (fun _ q1 q2 w1 f1 c1 a1 z1 => ?_) (fun q r w1 f1 a1 z1 => ?_)
        · rw [if_pos (by omega), rdN] at htg
          refine hsome L (p + 1) (by rw [htg]; unfold preN; simp) w1 (hf.trans f1) z1 a1 (by rw [c1]; exact hc0) (fun t x hx => by rw [c1]; exact hcm t x hx)
        · refine hnone ?_ w1 (hf.trans f1) z1
          rw [htg, if_neg (fun e => q ⟨hw, by omega, by omega⟩)]
    · rcases hst with ⟨hw, htg, hpp⟩ | ⟨hw, hc0, p, L, hp2, hpu, hL, hcm, htg⟩
      · refine ⟨fun _ => wrongEnd hw htg hpp, fun z => absurd (hw ▸ z) (by decide)⟩
      · refine ⟨fun z => absurd hw z, fun _ => ?_⟩
        -- a number is read at p1
        have wr : ∀ (u1 : zM) (s : Int32), fr w u1 → mIsWrong u1 = 1 → (∃ p, p ≤ 130 ∧ mAt u1 = nI p) → tg = none → jn_X7_read_145 vv (nI n) (nI i) u1 s Q K := by
          intro u1 s f1 z1 ap htn
          unfold jn_X7_read_145
          rw [z1]
          refine ⟨fun z => absurd z (by decide), fun _ => ⟨vp_in_nI (by omega) (by omega), ?_⟩⟩
          rw [nI_1]
          refine hK _ _ ⟨i + 1, rfl, by omega, by omega, f1.trans (fr.cmd _), Or.inl ⟨z1, htn, ap⟩⟩ ?_
          rw [nI_clamp (by omega), nI_clamp (by omega)]; omega
        have num : ∀ (u1 : zM) (p1 : Nat) (s : Int32), fr w u1 → mCommand u1 = mCommand u → mIsWrong u1 = 0 → mAt u1 = nI p1 → p1 ≤ 101 + 3 * i → tg = preN L (rdN cmds (n + 1 - i) p1) → jn_X7_read_145 vv (nI n) (nI i) u1 s Q K := by
          intro u1 p1 s f1 c1 z1 a1 hp1 htg1
          obtain ⟨m, hm⟩ : ∃ m, n + 1 - i = m + 1 := ⟨n - i, by omega⟩
          rw [hm, rdN] at htg1
          have fin : ∀ (u2 : zM) (x p2 : Nat), fr u1 u2 → mCommand u2 = mCommand u1 → mAt u2 = nI p2 → mIsWrong u2 = 0 → p2 ≤ p1 + 2 → (tg = if chA cmds p2 = sepC m then preN (L ++ [x]) (rdN cmds m (p2 + 1)) else none) → K (nI i + 1) (mSetCommand u2 (upd (mCommand u2) (nI i).toNatClampNeg (nI x))) := by
            intro u2 x p2 f2 c2 a2 z2 hp2 htg2
            rw [nI_1, nI_clamp (by omega)]
            refine hK _ _ ⟨i + 1, rfl, by omega, by omega, (f1.trans f2).trans (fr.cmd _), Or.inr ⟨z2, ?_, p2, L ++ [x], by omega, a2, by rw [List.length_append, hL]; show i - 1 + 1 = _; omega, fun t q hq => ?_, ?_⟩⟩ ?_
            · show upd (mCommand u2) i (nI x) 0 = _
              rw [upd_n (by omega), c2, c1]; exact hc0
            · show upd (mCommand u2) i (nI x) (t + 1) = _
              by_cases e : t < L.length
              · rw [List.getElem?_append_left e] at hq
                rw [upd_n (by omega), c2, c1]
                exact hcm t q hq
              · rw [List.getElem?_append_right (by omega)] at hq
                have ht1 := (List.getElem?_eq_some_iff.mp hq).1
                simp at ht1
                have e1 : t - L.length = 0 := by omega
                rw [e1] at hq
                cases hq
                rw [show t + 1 = i by omega, upd_s]
            · rw [if_neg (by omega), show n + 1 - (i + 1) = m by omega]; exact htg2
            · rw [nI_clamp (by omega), nI_clamp (by omega)]; omega
          unfold jn_X7_read_145
          rw [z1]
          refine ⟨fun _ => ?_, fun z => absurd rfl z⟩
          refine m_number (ht0.fr f1) hc (by omega) a1 z1 (fun d0 d1 u2 f2 c2 a2 z2 => ⟨vp_in_nI (by omega) (by omega), ?_⟩) (fun d0 d1 u2 f2 c2 a2 z2 => ⟨vp_in_nI (by omega) (by omega), ?_⟩) (fun d0 r u2 f2 a2 z2 => ⟨vp_in_nI (by omega) (by omega), ?_⟩)
          · refine fin u2 _ (p1 + 2) f2 c2 a2 z2 (by omega) ?_
            rw [if_pos d0, if_pos d1] at htg1
            rw [htg1]
            by_cases q : chA cmds (p1 + 2) = sepC m
            · rw [if_pos q, if_pos q, preN_cons]
            · rw [if_neg q, if_neg q]; rfl
          · refine fin u2 _ (p1 + 1) f2 c2 a2 z2 (by omega) ?_
            rw [if_pos d0, if_neg d1] at htg1
            rw [htg1]
            by_cases q : chA cmds (p1 + 1) = sepC m
            · rw [if_pos q, if_pos q, preN_cons]
            · rw [if_neg q, if_neg q]; rfl
          · rw [if_neg d0] at htg1
            rw [nI_1]
            refine hK _ _ ⟨i + 1, rfl, by omega, by omega, (f1.trans f2).trans (fr.cmd _), Or.inl ⟨z2, htg1, p1, by omega, a2⟩⟩ ?_
            rw [nI_clamp (by omega), nI_clamp (by omega)]; omega
        refine pk_le i 1 (fun h1 => ?_) (fun h1 => ?_)
        · have e : i = 1 := by omega
          subst e
          rw [if_pos rfl] at htg
          have hL0 : L = [] := List.eq_nil_of_length_eq_zero (by omega)
          refine num u p 0 hf rfl hw hpu (by omega) ?_
          rw [htg, hL0]
          show _ = preN [] (rdN cmds n p)
          unfold preN
          cases rdN cmds n p <;> rfl
        · rw [if_neg (by omega)] at htg
          have hs : sepC (n + 1 - i) = 44 := by unfold sepC; rw [if_neg (by omega)]
          rw [hs] at htg
          refine m_sign (lo := 44) (hi := 44) htu hc (by omega) hpu (by omega) (by omega) (fun _ q1 q2 w1 f1 c1 a1 z1 => ?_) (fun q r w1 f1 a1 z1 => ?_)
          · rw [if_pos (by omega)] at htg
            exact num w1 (p + 1) _ (hf.trans f1) c1 z1 a1 (by omega) htg
          · refine wr w1 _ (hf.trans f1) z1 ⟨p, by omega, a1⟩ ?_
            rw [htg, if_neg (fun e => q ⟨hw, by omega, by omega⟩)]
  · rcases h0 with ⟨a1, a2, p, a3, a4⟩ | ⟨a1, a2, a3⟩
    · exact Or.inl ⟨a1, a2, p, by omega, a4⟩
    · exact Or.inr ⟨a1, rfl, pos, [], by omega, a2, rfl, fun t x hx => by simp at hx, by rw [if_pos rfl]; exact a3⟩
end MREAD
