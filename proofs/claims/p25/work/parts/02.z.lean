/-! Z: a layer over the kit's rows: the world, the locals and the stack stand in the goal -/
-- lists in another order
theorem z_pm {α : Type} {l l' : List α} (is : List Nat) (n : Nat) (hn : l.length = n) (h1 : is.Perm (List.range n)) (h2 : is.map (fun i => l[i]?) = l'.map some) : l.Perm l' := by
  subst hn
  have e : (List.range l.length).map (fun i => l[i]?) = l.map some := by
    apply List.ext_getElem?
    intro i
    simp only [List.getElem?_map]
    by_cases hi : i < l.length
    · rw [List.getElem?_range hi]; simp [hi]
    · rw [List.getElem?_eq_none (by simpa using hi), List.getElem?_eq_none (by simpa using hi)]; rfl
  have h3 : (l.map some).Perm (l'.map some) := by rw [← e, ← h2]; exact (h1.map _).symm
  have h4 := h3.filterMap id
  simpa [List.filterMap_map] using h4
theorem z_flat_set {w : va_W} {x : Nat × va_E} : ∀ (bs : List va_W) (bi qi : Nat), bs[bi]? = some w → w[qi]? = some x → ∃ q0 : Nat, bs.flatten[q0]? = some x ∧ ∀ y : Nat × va_E, bs.flatten.set q0 y = (bs.set bi (w.set qi y)).flatten
  | [], bi, qi, h, _ => by simp at h
  | b :: bs, 0, qi, h, h2 => by
    simp only [List.getElem?_cons_zero, Option.some.injEq] at h
    subst h
    have hq : qi < b.length := (List.getElem?_eq_some_iff.mp h2).1
    refine ⟨qi, ?_, fun y => ?_⟩
    · rw [List.flatten_cons, List.getElem?_append_left hq]; exact h2
    · rw [List.flatten_cons, List.set_append_left _ _ hq]; rfl
  | b :: bs, bi + 1, qi, h, h2 => by
    simp only [List.getElem?_cons_succ] at h
    obtain ⟨q0, h3, h4⟩ := z_flat_set bs bi qi h h2
    refine ⟨b.length + q0, ?_, fun y => ?_⟩
    · rw [List.flatten_cons, List.getElem?_append_right (Nat.le_add_right _ _), Nat.add_sub_cancel_left]; exact h3
    · rw [List.flatten_cons, List.set_append_right _ _ (Nat.le_add_right _ _), Nat.add_sub_cancel_left, h4 y]; rfl
-- worlds as sets of cells at addresses that are apart
theorem z_P {D : va_G} {cl : List vw_C} {ws : va_W} {H : Heap} : va_P D cl ws H ↔ ∀ q ∈ ws, va_at D cl q H := by
  constructor
  · intro h q hq
    obtain ⟨i, hi⟩ := List.getElem?_of_mem hq
    exact h i q hi
  · intro h k q hk
    exact h q (List.mem_of_getElem? hk)
theorem z_D {A : Nat → Prop} {ws : va_W} : va_D A ws ↔ (ws.map Prod.fst).Nodup ∧ ∀ q ∈ ws, A q.1 := by
  constructor
  · intro h
    refine ⟨?_, fun q hq => ?_⟩
    · rw [List.Nodup, List.pairwise_map, List.pairwise_iff_getElem]
      intro i j hi hj hij he
      have := h.1 i j _ _ (List.getElem?_eq_getElem hi) (List.getElem?_eq_getElem hj) he
      omega
    · obtain ⟨i, hi⟩ := List.getElem?_of_mem hq
      exact h.2 i q hi
  · intro h
    have hn := h.1
    rw [List.Nodup, List.pairwise_map, List.pairwise_iff_getElem] at hn
    refine ⟨fun i j p q hp hq he => ?_, fun k q hk => h.2 q (List.mem_of_getElem? hk)⟩
    obtain ⟨hi, rfl⟩ := List.getElem?_eq_some_iff.mp hp
    obtain ⟨hj, rfl⟩ := List.getElem?_eq_some_iff.mp hq
    rcases Nat.lt_trichotomy i j with hl | hl | hl
    · exact absurd he (hn i j hi hj hl)
    · exact hl
    · exact absurd he.symm (hn j i hj hi hl)
theorem z_Pp {D : va_G} {cl : List vw_C} {ws ws' : va_W} {H : Heap} (h : ws.Perm ws') (hP : va_P D cl ws H) : va_P D cl ws' H := z_P.mpr fun q hq => z_P.mp hP q (h.mem_iff.mpr hq)
theorem z_Dp {A : Nat → Prop} {ws ws' : va_W} (h : ws.Perm ws') (hD : va_D A ws) : va_D A ws' := by
  have h2 := z_D.mp hD
  exact z_D.mpr ⟨(h.map Prod.fst).nodup_iff.mp h2.1, fun q hq => h2.2 q (h.mem_iff.mpr hq)⟩
theorem z_Pl {D : va_G} {cl : List vw_C} {a b : va_W} {H : Heap} (hP : va_P D cl (a ++ b) H) : va_P D cl a H := z_P.mpr fun q hq => z_P.mp hP q (List.mem_append_left _ hq)
theorem z_Pr {D : va_G} {cl : List vw_C} {a b : va_W} {H : Heap} (hP : va_P D cl (a ++ b) H) : va_P D cl b H := z_P.mpr fun q hq => z_P.mp hP q (List.mem_append_right _ hq)
theorem z_Dl {A : Nat → Prop} {a b : va_W} (hD : va_D A (a ++ b)) : va_D A a := by
  have h := z_D.mp hD
  rw [List.map_append] at h
  exact z_D.mpr ⟨(List.nodup_append.mp h.1).1, fun q hq => h.2 q (List.mem_append_left _ hq)⟩
theorem z_Aiff {ws : va_W} {sz q : Nat} : va_A ws sz q ↔ q ∈ ws.map Prod.fst ∨ sz ≤ q := by
  constructor
  · rintro (⟨k, e, h⟩ | h)
    · exact Or.inl (List.mem_map.mpr ⟨_, List.mem_of_getElem? h, rfl⟩)
    · exact Or.inr h
  · rintro (h | h)
    · obtain ⟨⟨a, e⟩, h1, rfl⟩ := List.mem_map.mp h
      obtain ⟨k, hk⟩ := List.getElem?_of_mem h1
      exact Or.inl ⟨k, e, hk⟩
    · exact Or.inr h
/-- behind a call: the callee's new world beside the rest, which is unchanged -/
theorem z_join {A0 : Nat → Prop} {D : va_G} {cl : List vw_C} {wc wr w1 : va_W} {H H1 : Heap} (hP : va_P D cl (wc ++ wr) H) (hD : va_D A0 (wc ++ wr)) (hlt : ∀ q ∈ wr, q.1 < H.size)
    (hk : ∀ q : Nat, q < H.size → ¬ va_A wc H.size q → H1[q]? = H[q]?) (hF : ∀ q, va_A wc H.size q → A0 q) (hP1 : va_P D cl w1 H1) (hD1 : va_D (va_A wc H.size) w1) : va_P D cl (w1 ++ wr) H1 ∧ va_D A0 (w1 ++ wr) := by
  have hd := z_D.mp hD
  rw [List.map_append, List.nodup_append] at hd
  obtain ⟨⟨n1, n2, n3⟩, ha⟩ := hd
  have hout : ∀ q ∈ wr, ¬ va_A wc H.size q.1 := by
    intro q hq h
    rcases z_Aiff.mp h with h | h
    · exact n3 _ h _ (List.mem_map.mpr ⟨q, hq, rfl⟩) rfl
    · exact absurd (hlt q hq) (by omega)
  constructor
  · refine z_P.mpr fun q hq => ?_
    rcases List.mem_append.mp hq with h | h
    · exact z_P.mp hP1 q h
    · exact (z_P.mp hP q (List.mem_append_right _ h)).kept (hk _ (hlt q h) (hout q h))
  · have h1 := z_D.mp hD1
    refine z_D.mpr ⟨?_, fun q hq => ?_⟩
    · rw [List.map_append, List.nodup_append]
      refine ⟨h1.1, n2, fun a ha1 b hb1 e => ?_⟩
      subst e
      obtain ⟨q, hq, rfl⟩ := List.mem_map.mp ha1
      obtain ⟨q2, hq2, e2⟩ := List.mem_map.mp hb1
      exact hout q2 hq2 (by rw [e2]; exact h1.2 q hq)
    · rcases List.mem_append.mp hq with h | h
      · exact hF _ (h1.2 q h)
      · exact ha q (List.mem_append_right _ h)
-- locals: by their places; 'none': not known
def z_pairs : Nat → List (Option Value) → List (Nat × Value)
  | _, [] => []
  | i, none :: t => z_pairs (i + 1) t
  | i, some v :: t => (i, v) :: z_pairs (i + 1) t
theorem z_pairs_mem {j : Nat} {w : Value} : ∀ (ls : List (Option Value)) (k : Nat), (j, w) ∈ z_pairs k ls ↔ k ≤ j ∧ ls[j - k]? = some (some w)
  | [], k => by simp [z_pairs]
  | none :: t, k => by
    rw [z_pairs, z_pairs_mem t (k + 1)]
    constructor
    · rintro ⟨h1, h2⟩
      refine ⟨by omega, ?_⟩
      rw [show j - k = (j - (k + 1)) + 1 by omega, List.getElem?_cons_succ]; exact h2
    · rintro ⟨h1, h2⟩
      have : j ≠ k := by
        intro e; subst e; simp at h2
      refine ⟨by omega, ?_⟩
      rw [show j - k = (j - (k + 1)) + 1 by omega, List.getElem?_cons_succ] at h2; exact h2
  | some v :: t, k => by
    rw [z_pairs, List.mem_cons, z_pairs_mem t (k + 1)]
    constructor
    · rintro (h | ⟨h1, h2⟩)
      · cases h; exact ⟨Nat.le_refl _, by simp⟩
      · refine ⟨by omega, ?_⟩
        rw [show j - k = (j - (k + 1)) + 1 by omega, List.getElem?_cons_succ]; exact h2
    · rintro ⟨h1, h2⟩
      by_cases e : j = k
      · subst e; simp at h2; exact Or.inl (by rw [h2])
      · refine Or.inr ⟨by omega, ?_⟩
        rw [show j - k = (j - (k + 1)) + 1 by omega, List.getElem?_cons_succ] at h2; exact h2
def z_cat1 (ls : List (Option Value)) : Prop := ∀ v : Value, some v ∈ ls → v.category = 1
def zL (la : Array Slot) (nL : Nat) (ls : List (Option Value)) : Prop := lv_has la nL (z_pairs 0 ls) ∧ z_cat1 ls
theorem zL.at {la : Array Slot} {nL : Nat} {ls : List (Option Value)} (h : zL la nL ls) {i : Nat} {v : Value} (hi : ls[i]? = some (some v)) : la[i]? = some (.val v) := h.1.2.2 (i, v) ((z_pairs_mem ls 0).mpr ⟨Nat.zero_le _, by simpa using hi⟩)
theorem zL.set {la : Array Slot} {nL i : Nat} {v : Value} {ls : List (Option Value)} (h : zL la nL ls) {la' : Array Slot} (h' : lv_has la' nL ((i, v) :: (z_pairs 0 ls).filter (fun q => !(q.1 == i) && !(q.1 + 1 == i && q.2.category == 2)))) (hv : v.category = 1) : zL la' nL (ls.set i (some v)) := by
  refine ⟨⟨h'.1, h'.2.1, fun q hq => ?_⟩, fun w hw => ?_⟩
  · obtain ⟨j, w⟩ := q
    have hq2 := ((z_pairs_mem _ 0).mp hq).2
    simp only [Nat.sub_zero] at hq2
    by_cases e : j = i
    · subst e
      have hl : j < (ls.set j (some v)).length := (List.getElem?_eq_some_iff.mp hq2).1
      rw [List.getElem?_set_self (by simpa using hl)] at hq2
      simp at hq2
      subst hq2
      exact h'.2.2 _ List.mem_cons_self
    · rw [List.getElem?_set_ne (by omega)] at hq2
      have hc : w.category = 1 := h.2 w (List.mem_of_getElem? hq2)
      refine h'.2.2 _ (List.mem_cons_of_mem _ (List.mem_filter.mpr ⟨(z_pairs_mem ls 0).mpr ⟨Nat.zero_le _, by simpa using hq2⟩, ?_⟩))
      simp [e, hc]
  · rcases List.mem_or_eq_of_mem_set hw with h2 | h2
    · exact h.2 w h2
    · cases h2; exact hv
theorem zL.sub {la : Array Slot} {nL : Nat} {ls ls' : List (Option Value)} (h : zL la nL ls) (hs : ∀ (i : Nat) (v : Value), ls'[i]? = some (some v) → ls[i]? = some (some v)) : zL la nL ls' := by
  refine ⟨⟨h.1.1, h.1.2.1, fun q hq => ?_⟩, fun v hv => ?_⟩
  · obtain ⟨j, w⟩ := q
    have hq2 := ((z_pairs_mem _ 0).mp hq).2
    exact h.at (hs _ _ (by simpa using hq2))
  · obtain ⟨i, hi⟩ := List.getElem?_of_mem hv
    exact h.2 v (List.mem_of_getElem? (hs i v hi))
def z_mask : List Bool → List (Option Value) → List (Option Value)
  | b :: bs, x :: xs => (if b then x else none) :: z_mask bs xs
  | _, _ => []
theorem z_mask_sub : ∀ (bs : List Bool) (ls : List (Option Value)) (i : Nat) (v : Value), (z_mask bs ls)[i]? = some (some v) → ls[i]? = some (some v)
  | [], _, i, v, h => by simp [z_mask] at h
  | _ :: _, [], i, v, h => by simp [z_mask] at h
  | b :: bs, x :: xs, 0, v, h => by
    simp only [z_mask, List.getElem?_cons_zero] at h ⊢
    by_cases hb : b = true
    · simpa [hb] using h
    · simp [hb] at h
  | b :: bs, x :: xs, i + 1, v, h => by
    simp only [z_mask, List.getElem?_cons_succ] at h ⊢
    exact z_mask_sub bs xs i v h
theorem lv_args_mem {j : Nat} {w : Value} : ∀ (vs : List Value) (k : Nat), (∀ v ∈ vs, v.category = 1) → k ≤ j → vs[j - k]? = some w → (j, w) ∈ lv_args k vs
  | [], k, _, _, h => by simp at h
  | v :: vs, k, hc, hk, h => by
    have h1 : ¬ v.category = 2 := by rw [hc v List.mem_cons_self]; decide
    rw [lv_args, if_neg h1]
    by_cases e : j = k
    · subst e; simp at h; subst h; exact List.mem_cons_self
    · refine List.mem_cons_of_mem _ (lv_args_mem vs (k + 1) (fun v hv => hc v (List.mem_cons_of_mem _ hv)) (by omega) ?_)
      rw [show j - k = (j - (k + 1)) + 1 by omega, List.getElem?_cons_succ] at h; exact h
theorem zL.entry (vs : List Value) {n : Nat} (hc : ∀ v ∈ vs, v.category = 1) (h : (lg_sl vs).length ≤ n) (ls : List (Option Value)) (hls : ls = vs.map some ++ List.replicate (n - vs.length) none) : zL ((lg_sl vs ++ List.replicate (n - (lg_sl vs).length) Slot.unset).toArray) n ls := by
  have h1 := lv_entry vs h
  subst hls
  refine ⟨⟨h1.1, h1.2.1, fun q hq => ?_⟩, fun v hv => ?_⟩
  · obtain ⟨j, w⟩ := q
    have hq2 := ((z_pairs_mem _ 0).mp hq).2
    simp only [Nat.sub_zero] at hq2
    refine h1.2.2 _ (lv_args_mem vs 0 hc (Nat.zero_le _) ?_)
    by_cases hj : j < vs.length
    · rw [List.getElem?_append_left (by simpa using hj), List.getElem?_map] at hq2
      cases hv : vs[j]? with
      | none => rw [hv] at hq2; simp at hq2
      | some x => rw [hv] at hq2; simp at hq2; subst hq2; simpa using hv
    · rw [List.getElem?_append_right (by simpa using hj)] at hq2
      have := List.eq_of_mem_replicate (List.mem_of_getElem? hq2)
      cases this
  · rcases List.mem_append.mp hv with h2 | h2
    · obtain ⟨x, hx, e⟩ := List.mem_map.mp h2
      cases e; exact hc _ hx
    · cases List.eq_of_mem_replicate h2
