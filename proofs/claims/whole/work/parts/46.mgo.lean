/-! the reference goes through a text, looks at it, plays it -/
def kp (v w : zM) : Prop := mAside w = mAside v ∧ mBefore w = mBefore v ∧ mText w = mText v ∧ mKnown w = mKnown v ∧ mLength w = mLength v
theorem kp.fr {v w w1 : zM} (h : kp v w) (f : fr w w1) : kp v w1 := ⟨f.2.1.trans h.1, f.2.2.1.trans h.2.1, f.2.2.2.1.trans h.2.2.1, f.2.2.2.2.1.trans h.2.2.2.1, f.2.2.2.2.2.1.trans h.2.2.2.2⟩
theorem kp.s {v w : zM} (h : kp v w) (g : Nat → Int32) : kp v (mSetS w g) := ⟨h.1, h.2.1, h.2.2.1, h.2.2.2.1, h.2.2.2.2⟩
theorem kp.pos {v w : zM} (h : kp v w) (g : Int32) : kp v (mSetPosition w g) := ⟨h.1, h.2.1, h.2.2.1, h.2.2.2.1, h.2.2.2.2⟩
theorem kp.rc {v w : zM} (h : kp v w) (a b : Int32) : kp v (mSetCause (mSetReason w a) b) := ⟨h.1, h.2.1, h.2.2.1, h.2.2.2.1, h.2.2.2.2⟩
theorem m_go {v : zM} {cmds : List Nat} {s : aS} (ht : TX v cmds) (hc : charOK cmds) (h : RMs (mS v) s) (ok : okS s) {Q : Int32 → zM → Prop} (hQ : ∀ (dn : Int32) (w : zM), kp v w → mReason w = nI (runT cmds s).1 → ((runT cmds s).1 ≠ 0 → mPosition w = nI (runT cmds s).2.1) → ((runT cmds s).1 = 1 → mCause w = -4) → ((runT cmds s).1 = 2 → mCause w = (runT cmds s).2.2.1) → ((runT cmds s).1 = 0 → dn = nI (runT cmds s).2.2.2.1) → RMs (mS w) (runT cmds s).2.2.2.2 → Q dn w) : wp_X7_go v Q := by
  have hl := hc.1
  unfold wp_X7_go
  have hle := runC_le hc 61 s 0 0 (Nat.zero_le _) (Nat.le_refl _)
  change (runT cmds s).2.1 ≤ 60 ∧ (runT cmds s).2.2.2.1 ≤ 60 ∧ (runT cmds s).1 ≤ 2 at hle
  have hR0 : runC cmds 61 s 0 0 = runT cmds s := rfl
  generalize runT cmds s = R at *
  refine zLoop2_i (fun v1 w => kp v w ∧ ((mReason w = 0 ∧ ∃ (dn n pos : Nat) (s1 : aS), v1 = nI dn ∧ okS s1 ∧ RMs (mS w) s1 ∧ mAt w = nI pos ∧ pos ≤ cmds.length ∧ dn ≤ pos ∧ cmds.length < pos + n ∧ runC cmds n s1 pos dn = R) ∨ (mReason w = nI R.1 ∧ R.1 ≠ 0 ∧ mPosition w = nI R.2.1 ∧ (R.1 = 1 → mCause w = -4) ∧ (R.1 = 2 → mCause w = R.2.2.1) ∧ RMs (mS w) R.2.2.2.2))) (fun _ w => if mReason w = 0 then 62 - (mAt w).toNatClampNeg else 0) ?_ _ _ ⟨⟨rfl, rfl, rfl, rfl, rfl⟩, Or.inl ⟨rfl, 0, 61, 0, s, rfl, ok, h, rfl, by omega, by omega, by omega, hR0⟩⟩
  rintro K v1 w ⟨hk, hst⟩ hK
  have htw : TX w cmds := ⟨by rw [hk.2.2.2.2]; exact ht.1, by rw [hk.2.2.1]; exact ht.2⟩
  unfold lb_X7_go_12
  rcases hst with ⟨hr, dn, n, pos, s1, rfl, ok1, hs1, hat, hp1, hdn, hpn, hrun⟩ | ⟨hr, hr0, hpos, hc1, hc2, hs1⟩
  · rw [htw.1, hat]
    refine pk_le cmds.length pos (fun q => ?_) (fun q => ?_)
    · rw [runC_end q] at hrun
      subst hrun
      exact hQ _ w hk hr (fun z => absurd rfl z) (fun z => absurd (show (0 : Nat) = 1 from z) (by decide)) (fun z => absurd (show (0 : Nat) = 2 from z) (by decide)) (fun _ => rfl) hs1
    · refine ⟨fun z => absurd hr z, fun _ => ?_⟩
      obtain ⟨m, rfl⟩ : ∃ m, n = m + 1 := ⟨n - 1, by omega⟩
      have q2 : ¬ cmds.length ≤ pos := by omega
      have hm0 : (if mReason w = 0 then 62 - (mAt w).toNatClampNeg else 0) = 62 - pos := by rw [if_pos hr, hat, nI_clamp (by omega)]
      rw [hm0] at hK
      have htp : TX (mSetPosition w (nI pos)) cmds := htw
      refine m_read (w := mSetPosition w (nI pos)) htp hc (by omega) hat (fun L nx e w1 f1 z1 a1 c1 m1 => ?_) (fun e w1 f1 z1 => ?_)
      · obtain ⟨p1, p2, p3, p4, p5⟩ := parse_pos e
        have hw0 : wantedOf (chA cmds pos) ≠ 0 := by
          intro z
          have : parseC cmds pos = none := by unfold parseC; rw [if_pos z]
          rw [this] at e
          cases e
        have k1 := (hk.pos (nI pos)).fr f1
        have hs2 : RMs (mS w1) s1 := by rw [f1.1]; exact hs1
        have hpo : mPosition w1 = nI pos := f1.2.2.2.2.2.2
        rw [z1]
        refine ⟨fun _ => ?_, fun z => absurd rfl z⟩
        refine m_does (cmds := cmds) (pos := pos) hs2 ok1 c1 hw0 p5 m1 (fun r hr e2 => ?_) (fun g hr r2 => ?_)
        · unfold jn_X7_go_59
          rw [z1]
          have hr2 : ¬ (0 : Int32) ≤ r := fun z => nn_of z hr
          refine ⟨fun _ => ⟨fun z => absurd z hr2, fun _ => ?_⟩, fun z => absurd rfl z⟩
          have hrr : ¬ 0 ≤ (opC cmds s1 pos L).1 := by rw [e2]; exact hr2
          rw [runC_err q2 e hrr] at hrun
          have hst : (opC cmds s1 pos L).2 = s1 := opAns_err ok1 _ _ _ _ (by unfold opC at e2; rw [e2]; exact hr)
          subst hrun
          refine hK _ _ ⟨k1.rc 2 r, Or.inr ⟨rfl, show (2 : Nat) ≠ 0 by decide, hpo, fun z => absurd (show (2 : Nat) = 1 from z) (by decide), fun _ => e2.symm, ?_⟩⟩ ?_
          · show RMs (mS w1) (opC cmds s1 pos L).2
            rw [hst]; exact hs2
          · show (if (2 : Int32) = 0 then _ else 0) < _
            rw [if_neg (by decide)]; omega
        · unfold jn_X7_go_59
          have z2 : mIsWrong (mSetS w1 g) = 0 := z1
          rw [z2]
          refine ⟨fun _ => ⟨fun _ => ?_, fun z => absurd (by decide) z⟩, fun z => absurd rfl z⟩
          have hrr : 0 ≤ (opC cmds s1 pos L).1 := nn_of' hr
          rw [runC_some q2 e hrr] at hrun
          rw [nI_1]
          have a2 : mAt (mSetCause (mSetReason (mSetS w1 g) 0) 0) = nI nx := a1
          refine hK _ _ ⟨(k1.s g).rc 0 0, Or.inl ⟨rfl, dn + 1, m, nx, (opC cmds s1 pos L).2, rfl, opC_ok ok1, r2, a2, p2, by omega, by omega, hrun⟩⟩ ?_
          rw [if_pos (show mReason (mSetCause (mSetReason (mSetS w1 g) 0) 0) = 0 from rfl), a2, nI_clamp (by omega)]
          omega
      · rw [runC_none q2 e] at hrun
        subst hrun
        have k1 := (hk.pos (nI pos)).fr f1
        rw [z1]
        refine ⟨fun z => absurd z (by decide), fun _ => ?_⟩
        unfold jn_X7_go_59
        rw [z1]
        refine ⟨fun z => absurd z (by decide), fun _ => ?_⟩
        refine hK _ _ ⟨k1.rc 1 (-4), Or.inr ⟨rfl, show (1 : Nat) ≠ 0 by decide, f1.2.2.2.2.2.2, fun _ => rfl, fun z => absurd (show (1 : Nat) = 2 from z) (by decide), ?_⟩⟩ ?_
        · show RMs (mS w1) s1
          rw [f1.1]; exact hs1
        · show (if (1 : Int32) = 0 then _ else 0) < _
          rw [if_neg (by decide)]; omega
  · have fin : Q v1 w := hQ _ w hk hr (fun _ => hpos) hc1 hc2 (fun z => absurd z hr0) hs1
    have hne : ¬ mReason w = 0 := by
      rw [hr]
      exact nI_neq (b := 0) hr0 (by omega) (by omega)
    exact ⟨fun _ => fin, fun _ => ⟨fun _ => fin, fun z => absurd z hne⟩⟩
theorem RM.tx {v : zM} {y : aY} (h : RM v y) : TX v (yCmds y) := ⟨h.2.2.2.1, h.2.2.2.2⟩
theorem m_look {v : zM} {y : aY} (h : RM v y) (ok : okY y) {Q : zM → Prop} (hQ : ∀ w, RM w y → mReason w = nI (runT (yCmds y) (yCur y)).1 → ((runT (yCmds y) (yCur y)).1 ≠ 0 → mPosition w = nI (runT (yCmds y) (yCur y)).2.1) → ((runT (yCmds y) (yCur y)).1 = 1 → mCause w = -4) → ((runT (yCmds y) (yCur y)).1 = 2 → mCause w = (runT (yCmds y) (yCur y)).2.2.1) → Q w) : wp_X7_look v Q := by
  unfold wp_X7_look
  refine m_putAside (fun a ha => ?_)
  have hst := (atW.start v).aside a
  have hst2 : mS (mSetAside v a) = mS v := rfl
  generalize mSetAside v a = va at hst hst2 ⊢
  obtain ⟨b1, b2, b3, b4, b5, -⟩ := hst
  have tx : TX va (yCmds y) := ⟨by rw [b4]; exact h.2.2.2.1, by rw [b5]; exact h.2.2.2.2⟩
  refine m_go tx ok.2.2.1 (by rw [hst2]; exact h.1) ok.1 (fun dn w k r1 r2 r3 r4 r5 r6 => ?_)
  refine m_putBack (fun gb hgb => ?_)
  obtain ⟨k1, k2, k3, k4, k5⟩ := k
  refine hQ _ ⟨h.1.ext ok.1.1 (fun t ht => ?_), ?_, ?_, ?_, ?_⟩ r1 r2 r3 r4
  · show gb t = mS v t
    rw [hgb t ht, k1, b1]
    exact ha t ht
  · show mKnown w = _
    rw [k4, b2]; exact h.2.1
  · show Hs (mBefore w) _
    rw [k2, b3]; exact h.2.2.1
  · show mLength w = _
    rw [k5, b4]; exact h.2.2.2.1
  · show rowAt (mText w) _ _ _
    rw [k3, b5]; exact h.2.2.2.2
section MGO
variable {v : zM} {y : aY} {Q : Int32 → zM → Prop}
theorem mx_fault (h : RM v y) (ok : okY y) (a : Int32) (hQ : ∀ v1, RM v1 y → Q (rFault y a) v1) : wp_X7_fault v a Q := by
  unfold wp_X7_fault
  unfold rFault at hQ
  obtain ⟨le1, le2, le3⟩ := runC_le ok.2.2.1 61 (yCur y) 0 0 (Nat.zero_le _) (Nat.le_refl _)
  change (runT (yCmds y) (yCur y)).2.1 ≤ 60 at le1
  change (runT (yCmds y) (yCur y)).1 ≤ 2 at le3
  refine in_1 (fun z => ?_) (fun z => ?_)
  · rw [if_pos (by rcases z with z | z; exact Or.inl z; exact Or.inr (le_not.mpr z))] at hQ; exact hQ v h
  · rw [if_neg (by rintro (w | w); exact z (Or.inl w); exact z (Or.inr (le_not.mp w)))] at hQ
    refine m_look h ok (fun w hw r1 r2 r3 r4 => ?_)
    rw [r1]
    refine ⟨fun n0 => ?_, fun e0 => ?_⟩
    · have n1 : (runT (yCmds y) (yCur y)).1 ≠ 0 := fun e => n0 (by rw [e]; rfl)
      rw [if_neg n1] at hQ
      refine ⟨fun a0 => ?_, fun a0 => ?_⟩
      · rw [if_neg a0] at hQ
        refine ⟨fun a1 => ?_, fun a1 => ?_⟩
        · rw [if_neg a1] at hQ
          by_cases e1 : (runT (yCmds y) (yCur y)).1 = 1
          · rw [if_pos e1] at hQ
            rw [r3 e1]; exact hQ w hw
          · rw [if_neg e1] at hQ
            rw [r4 (by omega)]; exact hQ w hw
        · rw [if_pos a1] at hQ; exact hQ w hw
      · rw [if_pos a0] at hQ
        rw [r2 n1]; exact hQ w hw
    · have e1 : (runT (yCmds y) (yCur y)).1 = 0 := (nI_eq (b := 0) (by omega) (by omega)).mp e0
      rw [if_pos e1] at hQ; exact hQ w hw
theorem mx_play (h : RM v y) (ok : okY y) (hQ : ∀ v1, RM v1 (playY y).2 → Q (playY y).1 v1) : wp_X7_play v Q := by
  unfold wp_X7_play
  unfold playY at hQ
  obtain ⟨le1, le2, le3⟩ := runC_le ok.2.2.1 61 (yCur y) 0 0 (Nat.zero_le _) (Nat.le_refl _)
  change (runT (yCmds y) (yCur y)).1 ≤ 2 at le3
  refine m_look h ok (fun w hw r1 r2 r3 r4 => ?_)
  rw [r1]
  refine pk_le (runT (yCmds y) (yCur y)).1 0 (fun e => ?_) (fun e => ?_)
  · have e0 : (runT (yCmds y) (yCur y)).1 = 0 := by omega
    rw [if_pos e0] at hQ
    refine m_know hw ok (fun bb hb => ?_)
    have tx : TX (mSetKnown (mSetBefore w bb) (nI ((yCur y :: yHist y).take 4).length)) (yCmds y) := hw.tx
    have hs : RMs (mS (mSetKnown (mSetBefore w bb) (nI ((yCur y :: yHist y).take 4).length))) (yCur y) := hw.1
    have q1 : mKnown (mSetKnown (mSetBefore w bb) (nI ((yCur y :: yHist y).take 4).length)) = nI ((yCur y :: yHist y).take 4).length := rfl
    have q2 : mBefore (mSetKnown (mSetBefore w bb) (nI ((yCur y :: yHist y).take 4).length)) = bb := rfl
    generalize mSetKnown (mSetBefore w bb) (nI ((yCur y :: yHist y).take 4).length) = w2 at tx hs q1 q2 ⊢
    refine m_go tx ok.2.2.1 hs ok.1 (fun dn w3 k s1 s2 s3 s4 s5 s6 => ?_)
    rw [s5 e0]
    obtain ⟨k1, k2, k3, k4, k5⟩ := k
    refine hQ w3 ⟨s6, ?_, ?_, ?_, ?_⟩
    · rw [k4, q1]; rfl
    · rw [k2, q2]; exact hb
    · rw [k5]; exact tx.1
    · rw [k3]; exact tx.2
  · rw [if_neg (by omega)] at hQ
    exact hQ w hw
end MGO
