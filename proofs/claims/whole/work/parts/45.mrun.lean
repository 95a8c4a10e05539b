/-! the reference runs a text of commands -/
theorem fr.reads {w : zM} (g : Nat → Int32) (x y : Int32) : fr w (mSetIsWrong (mSetAt (mSetCommand w g) x) y) := (fr.cmd g).trans (fr.at x y)
theorem wanted_cases {c : Nat} (h : wantedOf c ≠ 0) : c = 98 ∨ c = 100 ∨ c = 104 ∨ c = 105 ∨ c = 115 := by
  unfold wantedOf at h
  split at h
  · next e => exact Or.inl e
  split at h
  · next e => exact Or.inr (Or.inl e)
  split at h
  · next e => exact Or.inr (Or.inr (Or.inl e))
  split at h
  · next e => exact Or.inr (Or.inr (Or.inr (Or.inl e)))
  split at h
  · next e => exact Or.inr (Or.inr (Or.inr (Or.inr e)))
  · exact absurd rfl h
section MRUN
variable {w : zM} {cmds : List Nat}
theorem m_read (ht : TX w cmds) (hc : charOK cmds) {pos : Nat} (hp : pos ≤ 60) (hat : mAt w = nI pos) {Q : zM → Prop} (hsome : ∀ L nx, parseC cmds pos = some (L, nx) → ∀ w1, fr w w1 → mIsWrong w1 = 0 → mAt w1 = nI nx → mCommand w1 0 = nI (chA cmds pos) → (∀ (t x : Nat), L[t]? = some x → mCommand w1 (t + 1) = nI x) → Q w1) (hnone : parseC cmds pos = none → ∀ w1, fr w w1 → mIsWrong w1 = 1 → Q w1) : wp_X7_read w Q := by
  have hle := chA_le hc pos
  unfold wp_X7_read
  refine m_chr (P := fun c => jn_X7_read_24 w c Q) ht hc (by omega) hat ?_
  have key : ∀ n, 1 ≤ n → n ≤ 3 → (wantedOf (chA cmds pos) ≠ 0 → n = wantedOf (chA cmds pos)) → ∀ W, fr w W → mCommand W 0 = nI (chA cmds pos) → ((mIsWrong W = 1 ∧ wantedOf (chA cmds pos) = 0 ∧ mAt W = nI pos) ∨ (mIsWrong W = 0 ∧ wantedOf (chA cmds pos) ≠ 0 ∧ mAt W = nI (pos + 1))) → zLoop2 (lb_X7_read_116 w (nI n) Q) 1 W := by
    intro n hn1 hn3 hnw W hf hcm hst
    have hpar : parseC cmds pos = if wantedOf (chA cmds pos) = 0 then none else rdN cmds (wantedOf (chA cmds pos)) (pos + 1) := rfl
    refine m_readN (w := W) (tg := parseC cmds pos) (pos := pos + 1) (ht.fr hf) hc (by omega) hn1 hn3 ?_ (fun L nx e w1 f1 z1 a1 c1 m1 => hsome L nx e w1 (hf.trans f1) z1 a1 (by rw [c1]; exact hcm) m1) (fun e w1 f1 z1 => hnone e w1 (hf.trans f1) z1)
    rcases hst with ⟨q1, q2, q3⟩ | ⟨q1, q2, q3⟩
    · exact Or.inl ⟨q1, by rw [hpar, if_pos q2], pos, by omega, q3⟩
    · exact Or.inr ⟨q1, q3, by rw [hpar, if_neg q2, hnw q2]⟩
  generalize chA cmds pos = c at *
  have j81 : ∀ (s iw x : Int32), ((iw = 1 ∧ wantedOf c = 0 ∧ mAt w + x = nI pos) ∨ (iw = 0 ∧ wantedOf c ≠ 0 ∧ mAt w + x = nI (pos + 1))) → jn_X7_read_81 w (nI c) iw x (mAt w) Q := by
    intro s iw x hx
    unfold jn_X7_read_81
    have cm : ∀ z : Int32, upd (mCommand w) (0 : Int32).toNatClampNeg z 0 = z := fun z => upd_s
    refine ⟨vp_in_nI (n := 0) (by omega) (by omega), fun z => ⟨fun z2 => ?_, fun z2 => ?_⟩, fun z => ?_⟩
    · refine key 1 (by omega) (by omega) (fun q => ?_) _ (fr.reads _ _ _) (cm _) hx
      have n1 : c ≠ 105 := fun e => z (by rw [e]; rfl)
      have n2 : c ≠ 100 := fun e => z2 (by rw [e]; rfl)
      rcases wanted_cases q with e | e | e | e | e
      · rw [e]; rfl
      · exact absurd e n2
      · rw [e]; rfl
      · exact absurd e n1
      · rw [e]; rfl
    · refine key 2 (by omega) (by omega) (fun q => ?_) _ (fr.reads _ _ _) (cm _) hx
      have e : c = 100 := (nI_eq (b := 100) (by omega) (by omega)).mp z2
      subst e; rfl
    · refine key 3 (by omega) (by omega) (fun q => ?_) _ (fr.reads _ _ _) (cm _) hx
      have e : c = 105 := (nI_eq (b := 105) (by omega) (by omega)).mp z
      subst e; rfl
  have j60 : wantedOf c ≠ 0 → jn_X7_read_60 w (nI c) Q := by
    intro q
    unfold jn_X7_read_60 jn_X7_read_61
    exact ⟨zB_bI false, fun _ => j81 0 0 1 (Or.inr ⟨rfl, q, by rw [hat, nI_1]⟩), fun z => absurd rfl z⟩
  unfold jn_X7_read_24
  refine pk_eq c 105 (fun e => j60 (by rw [e]; decide)) (fun n1 => ?_)
  refine pk_eq c 100 (fun e => j60 (by rw [e]; decide)) (fun n2 => ?_)
  refine pk_eq c 115 (fun e => j60 (by rw [e]; decide)) (fun n3 => ?_)
  refine pk_eq c 104 (fun e => j60 (by rw [e]; decide)) (fun n4 => ?_)
  refine pk_eq c 98 (fun e => j60 (by rw [e]; decide)) (fun n5 => ?_)
  unfold jn_X7_read_61
  refine ⟨zB_bI true, fun z => absurd z (by decide), fun _ => j81 0 1 0 (Or.inl ⟨rfl, ?_, by rw [hat, li 0, nI_add]; rfl⟩)⟩
  unfold wantedOf
  rw [if_neg n5, if_neg n2, if_neg n4, if_neg n1, if_neg n3]
theorem m_does {s : aS} (h : RMs (mS w) s) (ok : okS s) {pos : Nat} {L : List Nat} (hcmd : mCommand w 0 = nI (chA cmds pos)) (hw0 : wantedOf (chA cmds pos) ≠ 0) (hwL : wantedOf (chA cmds pos) = L.length) (hcm : ∀ (t x : Nat), L[t]? = some x → mCommand w (t + 1) = nI x) {Q : Int32 → zM → Prop} (bad : ∀ r : Int32, r < 0 → (opC cmds s pos L).1 = r → Q r w) (good : ∀ g, ¬ (opC cmds s pos L).1 < 0 → RMs g (opC cmds s pos L).2 → Q 0 (mSetS w g)) : wp_X7_does w Q := by
  have iv := ok.1
  have hl := ok.2
  have hget : ∀ t, t < L.length → mCommand w (t + 1) = nI (L.getD t 0) := by
    intro t ht
    refine hcm t _ ?_
    rw [List.getD_eq_getElem?_getD, List.getElem?_eq_getElem ht]; rfl
  unfold wp_X7_does
  unfold opC at bad good
  have jb : ∀ (a b c d r : Int32), r < 0 → (opAns s (nI (chA cmds pos)) (nI (L.getD 0 0)) (nI (L.getD 1 0)) (nI (L.getD 2 0))).1 = r → jn_X7_does_90 w a b c w r Q := by
    intro a b c d r hr e
    unfold jn_X7_does_90
    exact ⟨fun _ => bad r hr e, fun z => absurd (z ▸ hr) (by decide)⟩
  rw [show (0 : Int32).toNatClampNeg = 0 from rfl, show (1 : Int32).toNatClampNeg = 1 from rfl, show (2 : Int32).toNatClampNeg = 2 from rfl, show (3 : Int32).toNatClampNeg = 3 from rfl, hcmd]
  refine ⟨vp_in_nI (n := 0) (by omega) (by omega), fun x1 hx1 => ⟨vp_in_nI (n := 1) (by omega) (by omega), fun x2 hx2 => ⟨vp_in_nI (n := 2) (by omega) (by omega), fun x3 hx3 => ?_⟩⟩⟩
  rw [hget 0 (by omega)] at hx2
  generalize chA cmds pos = c at *
  rcases wanted_cases hw0 with rfl | rfl | rfl | rfl | rfl
  · have e : x1 = 98 := hx1
    subst e
    subst hx2
    refine ⟨fun _ => ⟨fun _ => ⟨fun _ => ⟨fun _ => ?_, fun z => absurd z (by decide)⟩, fun z => absurd z (by decide)⟩, fun z => absurd z (by decide)⟩, fun z => absurd z (by decide)⟩
    refine m_backFault h iv (nI (L.getD 0 0)) (nI (L.getD 1 0)) (nI (L.getD 2 0)) (fun r hr e => jb _ _ _ 0 r hr e) (fun k hk ha hb0 hw e => ?_)
    have hI := iv.1 k hk
    have gk := (hI.2.2.2.1 _ (lastB_mem hb0)).1.1
    unfold jn_X7_does_90
    refine ⟨fun z => absurd rfl z, fun _ => ⟨fun _ => ⟨fun _ => ⟨fun _ => ⟨fun _ => ?_, fun z => absurd z (by decide)⟩, fun z => absurd z (by decide)⟩, fun z => absurd z (by decide)⟩, fun z => absurd z (by decide)⟩⟩
    rw [show opAns s (nI 98) _ _ _ = _ from e] at good
    rw [ha]
    exact m_takes hk (h.2 k hk) hI hb0 hw (fun g1 r o => good g1 (nI_pos (by omega)) (h.up iv hk r o))
  · have e : x1 = 100 := hx1
    subst e
    subst hx2
    have hx3 : x3 = nI (L.getD 1 0) := by rw [hx3]; exact hget 1 (by rw [← hwL]; decide)
    subst hx3
    refine ⟨fun _ => ⟨fun z => absurd rfl z, fun _ => ?_⟩, fun z => absurd z (by decide)⟩
    refine m_deleteFault h iv (nI (L.getD 0 0)) (nI (L.getD 1 0)) (nI (L.getD 2 0)) (fun r hr e => jb _ _ _ 0 r hr e) (fun k p hk ha hb hp hw e => ?_)
    have hI := iv.1 k hk
    have h9 := hI.2.2.2.2.2.2.2.2.1
    unfold jn_X7_does_90
    refine ⟨fun z => absurd rfl z, fun _ => ⟨fun _ => ⟨fun z => absurd rfl z, fun _ => ?_⟩, fun z => absurd z (by decide)⟩⟩
    rw [show opAns s (nI 100) _ _ _ = _ from e] at good
    rw [ha, hb]
    have h26 : (aCopy (sEd s k)).getD p 0 < 26 := by
      rw [List.getD_eq_getElem?_getD, List.getElem?_eq_getElem hp]
      exact h9 _ (List.getElem_mem hp)
    exact m_deletes hk (h.2 k hk) hI hp hw (fun g1 r o => good g1 (nI_pos (by omega)) (h.up iv hk r o))
  · have e : x1 = 104 := hx1
    subst e
    subst hx2
    refine ⟨fun _ => ⟨fun _ => ⟨fun _ => ⟨fun z => absurd rfl z, fun _ => ?_⟩, fun z => absurd z (by decide)⟩, fun z => absurd z (by decide)⟩, fun z => absurd z (by decide)⟩
    refine m_hearFault h iv _ (fun q => jb _ _ _ 0 _ neg_lit.1 (by rw [op_no q])) (fun k hk ha hh => jb _ _ _ 0 _ neg_lit.2.1 ?_) (fun k hk ha hh => ?_)
    · rw [ha, show opAns s (nI 104) (nI k) (nI (L.getD 1 0)) (nI (L.getD 2 0)) = _ from op_104 hk s _ _]
      show (opHear k _ _).1 = _
      unfold opHear
      rw [if_pos hh]
    · have hI := iv.1 k hk
      have e : opAns s (nI 104) (nI (L.getD 0 0)) (nI (L.getD 1 0)) (nI (L.getD 2 0)) = (nI (rHear k (sLog s) (sEd s k)), upE s k (sHear k (sLog s) (sEd s k))) := by
        rw [ha, show opAns s (nI 104) (nI k) (nI (L.getD 1 0)) (nI (L.getD 2 0)) = _ from op_104 hk s _ _]
        show (_, _) = _
        unfold opHear
        rw [if_neg (by omega)]
      rw [e] at good
      unfold jn_X7_does_90
      refine ⟨fun z => absurd rfl z, fun _ => ⟨fun _ => ⟨fun _ => ⟨fun _ => ⟨fun z => absurd rfl z, fun _ => ?_⟩, fun z => absurd z (by decide)⟩, fun z => absurd z (by decide)⟩, fun z => absurd z (by decide)⟩⟩
      rw [ha]
      have := rHear_le hI hh
      exact m_hears hk (h.2 k hk) h.1 hI hh (fun g1 r o => good g1 (nI_pos (by omega)) (h.up iv hk r o))
  · have e : x1 = 105 := hx1
    subst e
    subst hx2
    have hx3 : x3 = nI (L.getD 1 0) := by rw [hx3]; exact hget 1 (by rw [← hwL]; decide)
    subst hx3
    have hx4 : mCommand w 3 = nI (L.getD 2 0) := hget 2 (by rw [← hwL]; decide)
    rw [hx4]
    refine ⟨fun z => absurd rfl z, fun _ => ⟨vp_in_nI (n := 3) (by omega) (by omega), ?_⟩⟩
    refine m_insertFault h iv (nI (L.getD 0 0)) (nI (L.getD 1 0)) (nI (L.getD 2 0)) (fun r hr e => jb _ _ _ 0 r hr e) (fun k p l hk ha hb hc hp hl2 hcp hw e => ?_)
    have hI := iv.1 k hk
    have hp6 := pend_le hI
    unfold jn_X7_does_90
    refine ⟨fun z => absurd rfl z, fun _ => ⟨fun z => absurd rfl z, fun _ => ⟨vp_in_nI (n := 3) (by omega) (by omega), ?_⟩⟩⟩
    rw [show opAns s (nI 105) _ _ _ = _ from e] at good
    have hx5 : mCommand w (3 : Int32).toNatClampNeg = nI (L.getD 2 0) := hx4
    rw [hx5, ha, hb, hc]
    have j1 := (inv_ins hI hp hl2 hcp hw (by omega)).1.bound
    have j2 := (inv_ins hI hp hl2 hcp hw (by omega)).2
    exact m_inserts hk (h.2 k hk) hI hp hl2 hcp hw (fun g1 r o => good g1 (nI_pos (by omega)) (h.up iv hk r o))
  · have e : x1 = 115 := hx1
    subst e
    subst hx2
    refine ⟨fun _ => ⟨fun _ => ⟨fun z => absurd rfl z, fun _ => ?_⟩, fun z => absurd z (by decide)⟩, fun z => absurd z (by decide)⟩
    refine m_sendFault h iv (nI (L.getD 0 0)) (nI (L.getD 1 0)) (nI (L.getD 2 0)) (fun r hr e => jb _ _ _ 0 r hr e) (fun k hk ha hcs hl2 e => ?_)
    unfold jn_X7_does_90
    refine ⟨fun z => absurd rfl z, fun _ => ⟨fun _ => ⟨fun _ => ⟨fun z => absurd rfl z, fun _ => ?_⟩, fun z => absurd z (by decide)⟩, fun z => absurd z (by decide)⟩⟩
    rw [show opAns s (nI 115) _ _ _ = _ from e] at good
    rw [ha]
    exact m_sends h iv hk hcs (by omega) (fun g1 r => good g1 (nI_pos (by omega)) r)
end MRUN
