/-! the class's commands -/
def RC (v : zC) (cmds : List Nat) : Prop := rN 60 nI (cSigns v) cmds ∧ nCap (cNums v) = 3
theorem s_chr {v : zC} {cmds : List Nat} (h : RC v cmds) {i : Nat} (hi : i < 2 ^ 31) {x : Int32} (hx : x = nI i) {Q : Int32 → Prop} (hQ : Q (nI (chA cmds i))) : wp_X4_at (cSigns v) x Q := by
  unfold chA at hQ
  rw [List.getD_eq_getElem?_getD] at hQ
  by_cases hl : i < cmds.length
  · rw [List.getElem?_eq_getElem hl] at hQ
    exact s_at h.1 (List.getElem?_eq_getElem hl) hx hQ
  · rw [List.getElem?_eq_none (by omega)] at hQ
    exact s_at0 h.1 (by omega) hi hx hQ
theorem s_numAt {v : zN} {L : List Nat} (h : rN 3 nI v L) {i : Nat} (hi : i < 2 ^ 31) {x : Int32} (hx : x = nI i) {Q : Int32 → Prop} (hQ : Q (nI (L.getD i 0))) : wp_X4_at v x Q := by
  rw [List.getD_eq_getElem?_getD] at hQ
  by_cases hl : i < L.length
  · rw [List.getElem?_eq_getElem hl] at hQ
    exact s_at h (List.getElem?_eq_getElem hl) hx hQ
  · rw [List.getElem?_eq_none (by omega)] at hQ
    exact s_at0 h (by omega) hi hx hQ
theorem f_digit {c : Nat} (hc : c ≤ 126) : f_X1_isDigit (nI c) = if isD c = true then 1 else 0 := by
  unfold f_X1_isDigit
  rw [li 48, li 57]
  simp only [nI_ltI (a := c) (b := 48) (by omega) (by omega), nI_ltI (a := 57) (b := c) (by omega) (by omega)]
  by_cases a : c < 48
  · rw [if_pos a, if_neg (fun q => by have := isD_iff.mp q; omega)]
  · rw [if_neg a]
    by_cases b : 57 < c
    · rw [if_pos b, if_neg (fun q => by have := isD_iff.mp q; omega)]
    · rw [if_neg b, if_pos (isD_iff.mpr (by omega))]
theorem f_wanted {c : Nat} (hc : c ≤ 126) : f_X1_numbersOf (nI c) = nI (wantedOf c) := by
  unfold f_X1_numbersOf wantedOf
  rw [li 98, li 100, li 104, li 105, li 115]
  simp only [nI_eq (a := c) (b := 98) (by omega) (by omega), nI_eq (a := c) (b := 100) (by omega) (by omega), nI_eq (a := c) (b := 104) (by omega) (by omega), nI_eq (a := c) (b := 105) (by omega) (by omega), nI_eq (a := c) (b := 115) (by omega) (by omega)]
  repeat' split
  all_goals rfl
def digN (cmds : List Nat) (i : Nat) : Nat := if isD (chA cmds i) = true then (if isD (chA cmds (i + 1)) = true then 2 else 1) else 0
theorem s_digitsAt {v : zC} {cmds : List Nat} (h : RC v cmds) (hc : charOK cmds) {i : Nat} (hi : i ≤ 1000) {Q : Int32 → Prop} (hQ : Q (nI (digN cmds i))) : wp_X1_digitsAt v (nI i) Q := by
  unfold wp_X1_digitsAt
  unfold digN at hQ
  refine s_chr h (i := i) (by omega) rfl ?_
  rw [f_digit (chA_le hc i), nI_1]
  by_cases a : isD (chA cmds i) = true
  · rw [if_pos a] at hQ ⊢
    refine ⟨fun _ => ?_, fun q => absurd q (by decide)⟩
    refine s_chr h (i := i + 1) (by omega) rfl ?_
    rw [f_digit (chA_le hc (i + 1))]
    by_cases b : isD (chA cmds (i + 1)) = true
    · rw [if_pos b] at hQ ⊢
      exact ⟨fun q => absurd q (by decide), fun _ => hQ⟩
    · rw [if_neg b] at hQ ⊢
      exact ⟨fun _ => hQ, fun q => absurd rfl q⟩
  · rw [if_neg a] at hQ ⊢
    exact ⟨fun q => absurd rfl q, fun _ => hQ⟩
def valN (cmds : List Nat) (i : Nat) : Nat := if isD (chA cmds (i + 1)) = true then (chA cmds i - 48) * 10 + (chA cmds (i + 1) - 48) else chA cmds i - 48
theorem s_numberAt {v : zC} {cmds : List Nat} (h : RC v cmds) (hc : charOK cmds) {i : Nat} (hi : i ≤ 1000) (hd : isD (chA cmds i) = true) {Q : Int32 → Prop} (hQ : Q (nI (valN cmds i))) : wp_X1_numberAt v (nI i) (nI (digN cmds i)) Q := by
  have c1 := chA_le hc i
  have c2 := chA_le hc (i + 1)
  have d1 := isD_iff.mp hd
  unfold wp_X1_numberAt
  unfold digN
  unfold valN at hQ
  rw [if_pos hd]
  refine s_chr h (i := i) (by omega) rfl ?_
  rw [nI_1, li 48, li 10, li 2]
  intro x2 hx2
  rw [pk_sub (by omega)] at hx2
  subst hx2
  by_cases b : isD (chA cmds (i + 1)) = true
  · have d2 := isD_iff.mp b
    rw [if_pos b] at hQ ⊢
    refine ⟨fun q => absurd rfl q, fun _ => ?_⟩
    refine s_chr h (i := i + 1) (by omega) rfl ?_
    rw [pk_mul, nI_add, pk_sub (by omega)]
    rw [show (chA cmds i - 48) * 10 + chA cmds (i + 1) - 48 = (chA cmds i - 48) * 10 + (chA cmds (i + 1) - 48) by omega]
    exact hQ
  · rw [if_neg b] at hQ ⊢
    exact ⟨fun _ => hQ, fun q => absurd q (by decide)⟩
theorem consN_app (acc : List Nat) (x : Nat) (r : Option (List Nat × Nat)) : (consN x r).map (fun q => (acc ++ q.1, q.2)) = r.map (fun q => ((acc ++ [x]) ++ q.1, q.2)) := by
  cases r with
  | none => rfl
  | some q => simp [consN]
theorem rdN_step {cmds : List Nat} {w next : Nat} : rdN cmds (w + 1) next = if isD (chA cmds next) = true then (if chA cmds (next + digN cmds next) = sepC w then consN (valN cmds next) (rdN cmds w (next + digN cmds next + 1)) else none) else none := by
  rw [rdN]
  unfold digN valN
  by_cases a : isD (chA cmds next) = true
  · simp only [if_pos a]
    by_cases b : isD (chA cmds (next + 1)) = true
    · simp only [if_pos b]
    · simp only [if_neg b]
  · simp only [if_neg a]
theorem s_read {v : zC} {cmds : List Nat} (h : RC v cmds) (hc : charOK cmds) {pos : Nat} (hp : pos ≤ 60) {Q : Int32 → zC → Prop} (hN : parseC cmds pos = none → ∀ n1, nCap n1 = 3 → Q 0 (cSetNums v n1)) (hS : ∀ L nx, parseC cmds pos = some (L, nx) → ∀ n1, rN 3 nI n1 L → Q (nI nx) (cSetNums v n1)) : wp_X1_read v (nI pos) Q := by
  have c0 := chA_le hc pos
  unfold wp_X1_read
  refine s_chr h (i := pos) (by omega) rfl ?_
  rw [f_wanted c0, nI_1]
  intro x2 hx2 x3 hx3
  subst hx2; subst hx3
  refine s_empty (f := nI) h.2 (by decide) (fun u4 h4 => ?_)
  have hw3 := wantedOf_le (chA cmds pos)
  unfold parseC at hN hS
  generalize wantedOf (chA cmds pos) = w at *
  refine zLoop3_i (fun v3 v4 n => ∃ (i next : Nat) (acc : List Nat), v3 = nI next ∧ v4 = nI i ∧ i ≤ w ∧ next ≤ pos + 1 + 3 * i ∧ rN 3 nI n acc ∧ acc.length = i ∧ rdN cmds w (pos + 1) = (rdN cmds (w - i) next).map (fun q => (acc ++ q.1, q.2))) (fun _ v4 _ => w - v4.toNatClampNeg) ?_ _ _ _ ⟨0, pos + 1, [], rfl, rfl, Nat.zero_le _, by omega, h4, rfl, ?_⟩
  · rintro K v3 v4 n ⟨i, next, acc, rfl, rfl, hi, hnx, hn, hacc, hrd⟩ hK
    have hRC : RC (cSetNums v n) cmds := ⟨h.1, hn.1⟩
    unfold lb_X1_read_26
    refine pk_le w i (fun hle => ?_) (fun hgt => ?_)
    · have e : i = w := by omega
      subst e
      rw [Nat.sub_self, rdN] at hrd
      simp only [Option.map_some, List.append_nil] at hrd
      refine ⟨fun q => ?_, fun q => ?_⟩
      · have : ¬ i = 0 := fun z => q (by rw [z]; rfl)
        exact hS acc next (by rw [if_neg this]; exact hrd) n hn
      · have : i = 0 := (nI_eq (b := 0) (by omega) (by omega)).mp q
        exact hN (by rw [if_pos this]) n hn.1
    · have hw0 : ¬ w = 0 := by omega
      rw [if_neg hw0] at hN
      have e1 : w - i = (w - i - 1) + 1 := by omega
      rw [e1, rdN_step] at hrd
      refine s_digitsAt hRC hc (by omega) ?_
      intro x8 hx8
      rw [nI_add] at hx8
      subst hx8
      have hd2 : digN cmds next ≤ 2 := by unfold digN; (repeat' split) <;> omega
      by_cases a : isD (chA cmds next) = true
      · rw [if_pos a] at hrd
        have hd1 : 1 ≤ digN cmds next := by unfold digN; rw [if_pos a]; split <;> omega
        refine ⟨fun q => absurd ((nI_eq (b := 0) (by omega) (by omega)).mp q) (by omega), fun _ => ?_⟩
        refine s_chr hRC (i := next + digN cmds next) (by omega) rfl ?_
        have c1 := chA_le hc (next + digN cmds next)
        have jn : ∀ z : Nat, z < 200 → z = sepC (w - i - 1) → jn_X1_read_74 v (nI pos) (nI w) (nI next) (nI i) (nI (digN cmds next)) (nI (next + digN cmds next)) n (nI z) (nI (chA cmds (next + digN cmds next))) Q K := by
          intro z hz hz2
          unfold jn_X1_read_74
          by_cases b : chA cmds (next + digN cmds next) = sepC (w - i - 1)
          · rw [if_pos b, consN_app] at hrd
            refine ⟨fun _ => ?_, fun q => absurd (by rw [b, ← hz2]) q⟩
            refine s_numberAt hRC hc (by omega) a ?_
            refine s_add hn (by omega) (valN cmds next) rfl (fun u14 h14 => ?_)
            intro x15 hx15
            rw [nI_1] at hx15
            subst hx15
            rw [nI_1]
            refine hK _ _ _ ⟨i + 1, next + digN cmds next + 1, acc ++ [valN cmds next], rfl, rfl, by omega, by omega, h14, by rw [List.length_append, hacc]; rfl, ?_⟩ ?_
            · rw [hrd, show w - (i + 1) = w - i - 1 by omega]
            · rw [nI_clamp (by omega), nI_clamp (by omega)]; omega
          · rw [if_neg b] at hrd
            refine ⟨fun q => absurd ((nI_eq (by omega) (by omega)).mp q) (by rw [hz2]; exact b), fun _ => hN hrd n hn.1⟩
        have e2 : nI w - 1 = nI (w - 1) := by rw [li 1, pk_sub (by omega)]
        rw [e2]
        refine pk_le (w - 1) i (fun hle => ?_) (fun hgt2 => ?_)
        · exact jn 59 (by omega) (by unfold sepC; rw [if_pos (by omega)])
        · exact jn 44 (by omega) (by unfold sepC; rw [if_neg (by omega)])
      · rw [if_neg a] at hrd
        have hd0 : digN cmds next = 0 := by unfold digN; rw [if_neg a]
        rw [hd0]
        exact ⟨fun _ => hN hrd n hn.1, fun q => absurd rfl q⟩
  · rw [Nat.sub_zero]
    cases rdN cmds w (pos + 1) <;> simp
/-- the commands are done on a state -/
theorem s_runOn {v : zC} {t : zT} {cmds : List Nat} {s : aS} (h : RC v cmds) (hc : charOK cmds) (ht : RS t s) (ok : okS s) {Q : zC → zT → Prop}
    (hQ : ∀ v1 t1, RC v1 cmds → cPos v1 = nI (runT cmds s).2.1 → cRsn v1 = nI (runT cmds s).1 → ((runT cmds s).1 = 2 → cCause v1 = (runT cmds s).2.2.1) → cDone v1 = nI (runT cmds s).2.2.2.1 → RS t1 (runT cmds s).2.2.2.2 → Q v1 t1) : wp_X1_runOn v t Q := by
  have hcl := hc.1
  unfold wp_X1_runOn
  refine zLoop3_i (fun v2 w0 w1 => ∃ (j pos dn : Nat) (sj : aS), v2 = nI j ∧ j ≤ 60 ∧ j ≤ pos ∧ pos ≤ cmds.length ∧ dn ≤ pos ∧ RC w0 cmds ∧ cPos w0 = nI pos ∧ cRsn w0 = 0 ∧ cDone w0 = nI dn ∧ RS w1 sj ∧ okS sj ∧ runC cmds (61 - j) sj pos dn = runT cmds s) (fun v2 _ _ => 60 - v2.toNatClampNeg) ?_ _ _ _ ⟨0, 0, 0, s, rfl, by omega, by omega, by omega, by omega, h, rfl, rfl, rfl, ht, ok, rfl⟩
  rintro K v2 w0 w1 ⟨j, pos, dn, sj, rfl, hj, hjp, hpl, hdp, hw, hp, hr, hd, ht1, ok1, hrun⟩ hK
  unfold lb_X1_runOn_22
  rw [hp, hw.1.size]
  have fin : cmds.length ≤ pos → Q w0 w1 := by
    intro hl
    rw [runC_end hl] at hrun
    refine hQ w0 w1 hw ?_ ?_ ?_ ?_ ?_ <;> rw [← hrun]
    · exact hp
    · exact hr
    · intro q; exact absurd q (by show ¬ (0 : Nat) = 2; omega)
    · exact hd
    · exact ht1
  refine pk_le 60 j (fun h60 => fin (by omega)) (fun h60 => ?_)
  refine pk_le cmds.length pos (fun hl => fin hl) (fun hl => ?_)
  have hl2 : ¬ cmds.length ≤ pos := by omega
  rw [show 61 - j = (60 - j) + 1 by omega] at hrun
  refine s_read hw hc (by omega) (fun hpn n1 hn1 => ?_) (fun L nx hps n1 hn1 => ?_)
  · refine ⟨fun q => absurd rfl q, fun _ => ?_⟩
    rw [runC_none hl2 hpn] at hrun
    refine hQ _ w1 ⟨hw.1, hn1⟩ ?_ ?_ ?_ ?_ ?_ <;> rw [← hrun]
    · exact hp
    · rfl
    · intro q; exact absurd q (by show ¬ (1 : Nat) = 2; omega)
    · exact hd
    · exact ht1
  · obtain ⟨p1, p2, p3, p4, p5⟩ := parse_pos hps
    refine ⟨fun _ => ?_, fun q => absurd ((nI_eq (b := 0) (by omega) (by omega)).mp q) (by omega)⟩
    have hRC : RC (cSetNums w0 n1) cmds := ⟨hw.1, hn1.1⟩
    show wp_X4_at (cSigns (cSetNums w0 n1)) (cPos w0) _
    rw [hp]
    refine s_chr hRC (i := pos) (by omega) rfl ?_
    refine s_numAt hn1 (i := 0) (by omega) rfl (s_numAt hn1 (i := 1) (by omega) rfl (s_numAt hn1 (i := 2) (by omega) rfl ?_))
    refine s_answer ht1 ok1.1 ok1.2 _ _ _ _ (fun t2 h2 => ?_)
    show (0 ≤ (opC cmds sj pos L).1 → _) ∧ (¬ 0 ≤ (opC cmds sj pos L).1 → _)
    refine ⟨fun hge => ?_, fun hlt => ?_⟩
    · rw [runC_some hl2 hps hge] at hrun
      rw [nI_1]
      refine hK _ _ _ ⟨j + 1, nx, dn + 1, (opC cmds sj pos L).2, rfl, by omega, by omega, p2, by omega, hRC, rfl, hr, ?_, h2, opC_ok ok1, ?_⟩ ?_
      · show cDone w0 + 1 = _
        rw [hd, nI_1]
      · rw [show 61 - (j + 1) = 60 - j by omega]; exact hrun
      · rw [nI_clamp (by omega), nI_clamp (by omega)]; omega
    · rw [runC_err hl2 hps hlt] at hrun
      refine hQ _ t2 hRC ?_ ?_ ?_ ?_ ?_ <;> rw [← hrun]
      · exact hp
      · rfl
      · intro _; rfl
      · exact hd
      · exact h2
