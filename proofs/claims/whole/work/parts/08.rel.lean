/-! ===== the words that the walks use ===== -/
theorem am_tb_in {i : Nat} {w : Cond} (h : am_tb i = some w) : w ∈ lw_tbl := by
  unfold am_tb at h
  unfold lw_tbl tables_1
  simp only [List.mem_append]
  cases h0 : Nat.blt i 101 with
  | true => rw [h0] at h; exact Or.inl (List.mem_of_getElem? h)
  | false =>
  rw [h0] at h
  cases h1 : Nat.blt i 341 with
  | true => rw [h1] at h; exact Or.inr (Or.inl (List.mem_of_getElem? h))
  | false =>
  rw [h1] at h
  cases h2 : Nat.blt i 581 with
  | true => rw [h2] at h; exact Or.inr (Or.inr (Or.inl (List.mem_of_getElem? h)))
  | false =>
  rw [h2] at h
  cases h3 : Nat.blt i 821 with
  | true => rw [h3] at h; exact Or.inr (Or.inr (Or.inr (Or.inl (List.mem_of_getElem? h))))
  | false =>
  rw [h3] at h
  cases h4 : Nat.blt i 1061 with
  | true => rw [h4] at h; exact Or.inr (Or.inr (Or.inr (Or.inr (Or.inl (List.mem_of_getElem? h)))))
  | false =>
  rw [h4] at h
  cases h5 : Nat.blt i 1301 with
  | true => rw [h5] at h; exact Or.inr (Or.inr (Or.inr (Or.inr (Or.inr (Or.inl (List.mem_of_getElem? h))))))
  | false =>
  rw [h5] at h
  cases h6 : Nat.blt i 1541 with
  | true => rw [h6] at h; exact Or.inr (Or.inr (Or.inr (Or.inr (Or.inr (Or.inr (Or.inl (List.mem_of_getElem? h)))))))
  | false =>
  rw [h6] at h
  cases h7 : Nat.blt i 1781 with
  | true => rw [h7] at h; exact Or.inr (Or.inr (Or.inr (Or.inr (Or.inr (Or.inr (Or.inr (Or.inl (List.mem_of_getElem? h))))))))
  | false =>
  rw [h7] at h
  cases h8 : Nat.blt i 2021 with
  | true => rw [h8] at h; exact Or.inr (Or.inr (Or.inr (Or.inr (Or.inr (Or.inr (Or.inr (Or.inr (List.mem_of_getElem? h))))))))
  | false => rw [h8] at h; cases h
/-- the words that stay true as the tables warm up -/
def am_gw : List Cond := lw_tbl.filter goodWord
theorem am_gw_in {w : Cond} (h : w ∈ lw_tbl) (hg : goodWord w = true) : w ∈ am_gw := List.mem_filter.mpr ⟨h, hg⟩
theorem am_gw_good {w : Cond} (h : w ∈ am_gw) : goodWord w = true := (List.mem_filter.mp h).2
theorem am_rows {α : Type} {l : List α} {f : α → Option Cond} {ps : List Nat} (h : l.map f = ps.map am_tb) {x : α} (hx : x ∈ l) {w : Cond} (hw : f x = some w) : w ∈ lw_tbl := by
  have h1 : f x ∈ l.map f := List.mem_map.mpr ⟨x, hx, rfl⟩
  rw [h] at h1
  obtain ⟨i, -, hi⟩ := List.mem_map.mp h1
  exact am_tb_in (hi.trans hw)
theorem am_mem_drop {α : Type} {l : List α} {x : α} (n k : Nat) (hx : x ∈ l.drop n) : x ∈ (l.drop n).take k ∨ x ∈ l.drop (n + k) := by
  rw [← List.take_append_drop k (l.drop n)] at hx
  rcases List.mem_append.mp hx with h | h
  · exact Or.inl h
  · rw [List.drop_drop] at h; exact Or.inr h
/-! ===== the small machine's cells in the heap ===== -/
def am_rv (ρ : Nat → Nat) (v : Value) : Value := match v with
  | .ref a => .ref (ρ a)
  | w => w
theorem am_rv_cat (ρ : Nat → Nat) (v : Value) : (am_rv ρ v).category = v.category := by cases v <;> rfl
/-- addresses of the cells, numbers of the classes, of the slots, of the array classes, where our cells begin -/
abbrev am_G : Type := (Nat → Nat) × (Nat → ClassId) × (Nat → Nat → Nat) × (FieldType → ClassId) × Nat
abbrev am_base (G : am_G) : Nat := G.2.2.2.2
abbrev am_A (G : am_G) : Nat → Prop := fun q => am_base G ≤ q
def am_ok (G : am_G) : Prop := G.1 0 < am_base G ∧ G.1 1 < am_base G ∧ ∀ i, 2 ≤ i → G.1 i = am_base G + (i - 2)
def am_tys : List FieldType := [.int, .long, .char, .boolean, .object "StoneSecrets$Wall", .object "StoneSecrets$Seen"]
def am_ov (μ : am_M2) (ν : am_N2) (i : Nat) (ks : List (Option Nat ⊕ Bool)) (k : Nat) : Value := match ks[k]? with
  | some x => am_fv μ ν i k x
  | none => .null
def am_at (G : am_G) (U : State) (H : Heap) (μ : am_M2) (ν : am_N2) (i : Nat) (x : am_Sh) : Prop := match x with
  | .inr (ci, ks) => 2 ≤ i ∧ ∃ q : vw_C, am_cl[ci]? = some q ∧ ks.length = q.2.2 ∧ t_OB (G.1 i) (G.2.1 ci) q.2.2 (G.2.2.1 ci) H (fun k => am_rv G.1 (am_ov μ ν i ks k))
  | .inl (ty, true, n, f) => 2 ≤ i ∧ ty ∈ am_tys ∧ H[G.1 i]? = some (arrV (G.2.2.2.1 ty) n (fun j => am_rv G.1 (am_av μ ν i ty f j)))
  | .inl (ty, false, n, f) => i < 2 ∧ (ty = .int ∨ ty = .long) ∧ ∃ cell : Cell, H[G.1 i]? = some cell ∧ U.isArrayOf cell ty ∧ cell.vm ≠ .unknown ∧ n ≤ cell.slots.size ∧ cell.slots.size.toInt32 = Int32.ofNat n ∧ ∀ j, j < n → cell.slots[j]? = some (am_av μ ν i ty f j)
def am_rel (G : am_G) (h : am_H) (U : State) (H : Heap) : Prop :=
  (∀ i x, h.2.2.1 i = some x → am_at G U H h.2.2.2.1 h.2.2.2.2 i x) ∧ (h.1 = 0 ∨ (2 ≤ h.1 ∧ H.size = am_base G + (h.1 - 2) ∧ ∀ i, h.1 ≤ i → h.2.2.1 i = none)) ∧ am_base G ≤ H.size ∧ va_Z "StoneSecrets" "LANGUAGE" "[J" (.ref (G.1 1)) (am_A G) U H
def am_nw : List Cond := (am_lkm.filterMap (fun q => if q.2.2.2 = true then am_wm q else none)) ++ [.fieldLinkNest "StoneSecrets$Tape" 74 "StoneSecrets" "LANGUAGE" "[J" "StoneSecrets"]
def am_K (G : am_G) (U : State) : Prop := va_K (G.2.1, G.2.2.1) am_cl (am_tys.map fun ty => (G.2.2.2.1 ty, ty)) U ∧ (∀ w ∈ am_nw, va_Nw w U) ∧ va_AO "StoneSecrets$Wall" U ∧ va_AO "StoneSecrets$Seen" U
/-! a store into one cell of ours -/
theorem am_at_row {G : am_G} {U : State} {H : Heap} {μ μ' : am_M2} {ν ν' : am_N2} {i : Nat} {x : am_Sh} (hm : μ' i = μ i) (hn : ν' i = ν i) (h : am_at G U H μ ν i x) : am_at G U H μ' ν' i x := by
  have e1 : ∀ k y, am_fv μ' ν' i k y = am_fv μ ν i k y := by
    intro k y
    unfold am_fv
    rw [hm, hn]
  have e2 : ∀ ty f j, am_av μ' ν' i ty f j = am_av μ ν i ty f j := by
    intro ty f j
    unfold am_av
    rw [hm, hn]
  have e3 : ∀ ks k, am_ov μ' ν' i ks k = am_ov μ ν i ks k := by
    intro ks k
    unfold am_ov
    split <;> simp [e1]
  match x, h with
  | .inr (ci, ks), h =>
    obtain ⟨h1, q, h2, h3, h4⟩ := h
    refine ⟨h1, q, h2, h3, ?_⟩
    simp only [e3]
    exact h4
  | .inl (ty, true, n, f), h =>
    obtain ⟨h1, h2, h3⟩ := h
    refine ⟨h1, h2, ?_⟩
    simp only [e2]
    exact h3
  | .inl (ty, false, n, f), h =>
    obtain ⟨h1, h2, cell, h3, h4, h5, h6, h7, h8⟩ := h
    refine ⟨h1, h2, cell, h3, h4, h5, h6, h7, ?_⟩
    simp only [e2]
    exact h8
theorem am_at_kept {G : am_G} {U : State} {H H1 : Heap} {μ : am_M2} {ν : am_N2} {i : Nat} {x : am_Sh} (hq : H1[G.1 i]? = H[G.1 i]?) (h : am_at G U H μ ν i x) : am_at G U H1 μ ν i x := by
  match x, h with
  | .inr (ci, ks), h =>
    obtain ⟨h1, q, h2, h3, h4⟩ := h
    exact ⟨h1, q, h2, h3, h4.kept hq⟩
  | .inl (ty, true, n, f), h =>
    obtain ⟨h1, h2, h3⟩ := h
    exact ⟨h1, h2, hq.trans h3⟩
  | .inl (ty, false, n, f), h =>
    obtain ⟨h1, h2, cell, h3, h4⟩ := h
    exact ⟨h1, h2, cell, hq.trans h3, h4⟩
theorem am_at_lt {G : am_G} {U : State} {H : Heap} {μ : am_M2} {ν : am_N2} {i : Nat} {x : am_Sh} (h : am_at G U H μ ν i x) : G.1 i < H.size := by
  match x, h with
  | .inr (ci, ks), h =>
    obtain ⟨h1, q, h2, h3, cell, h4, -⟩ := h
    exact (Array.getElem?_eq_some_iff.mp h4).1
  | .inl (ty, true, n, f), h =>
    obtain ⟨h1, h2, h3⟩ := h
    exact (Array.getElem?_eq_some_iff.mp h3).1
  | .inl (ty, false, n, f), h =>
    obtain ⟨h1, h2, cell, h3, h4⟩ := h
    exact (Array.getElem?_eq_some_iff.mp h3).1
theorem am_at_moved {G : am_G} {u U : State} {H : Heap} {μ : am_M2} {ν : am_N2} {i : Nat} {x : am_Sh} (hvm : u.vm.Alike U.vm) (h : am_at G u H μ ν i x) : am_at G U H μ ν i x := by
  match x, h with
  | .inr (ci, ks), h => exact h
  | .inl (ty, true, n, f), h => exact h
  | .inl (ty, false, n, f), h =>
    obtain ⟨h1, h2, cell, h3, h4, h5⟩ := h
    exact ⟨h1, h2, cell, h3, State.isArrayOf_alike hvm h4, h5⟩
theorem am_rel_moved {G : am_G} {h : am_H} {u U : State} {H : Heap} (hvm : u.vm.Alike U.vm) (hr : am_rel G h u H) : am_rel G h U H := by
  obtain ⟨h1, h2, h3, h4⟩ := hr
  exact ⟨fun i x hi => am_at_moved hvm (h1 i x hi), h2, h3, va_Z.moved hvm h4⟩
theorem am_ne {G : am_G} (hok : am_ok G) {a i : Nat} (ha : 2 ≤ a) (hi : i ≠ a) : G.1 i ≠ G.1 a := by
  obtain ⟨h0, h1, h2⟩ := hok
  rw [h2 a ha]
  rcases Nat.lt_or_ge i 2 with q | q
  · rcases (by omega : i = 0 ∨ i = 1) with rfl | rfl <;> omega
  · rw [h2 i q]; omega
theorem am_put {G : am_G} {h h' : am_H} {U : State} {H H1 : Heap} {a : Nat} (hok : am_ok G) (hr : am_rel G h U H) (ha : 2 ≤ a) (hz : H1.size = H.size) (ho : ∀ q, q ≠ G.1 a → H1[q]? = H[q]?)
    (e1 : h'.1 = h.1) (hS : ∀ i, i ≠ a → h'.2.2.1 i = h.2.2.1 i) (hn : h.2.2.1 a ≠ none) (hm : ∀ i, i ≠ a → h'.2.2.2.1 i = h.2.2.2.1 i) (hl : ∀ i, i ≠ a → h'.2.2.2.2 i = h.2.2.2.2 i)
    (hat : ∀ x, h'.2.2.1 a = some x → am_at G U H1 h'.2.2.2.1 h'.2.2.2.2 a x) : am_rel G h' U H1 := by
  obtain ⟨h1, h2, h3, h4⟩ := hr
  refine ⟨fun i x hi => ?_, ?_, by omega, h4.kept fun q hq hqa => ho q ?_⟩
  · by_cases q : i = a
    · subst q; exact hat x hi
    · rw [hS i q] at hi
      exact am_at_row (hm i q) (hl i q) (am_at_kept (ho _ (am_ne hok ha q)) (h1 i x hi))
  · rcases h2 with h2 | ⟨h2, h5, h6⟩
    · exact Or.inl (by rw [e1]; exact h2)
    · refine Or.inr ⟨by rw [e1]; exact h2, by rw [hz, e1]; exact h5, fun i hi => ?_⟩
      rw [e1] at hi
      have hne : i ≠ a := fun q => hn (by rw [← q]; exact h6 i hi)
      rw [hS i hne]
      exact h6 i hi
  · intro e
    rw [e, hok.2.2 a ha] at hqa
    exact hqa (Nat.le_add_right _ _)
/-! a cell made -/
theorem am_born {G : am_G} {h h' : am_H} {U : State} {H H1 : Heap} (hok : am_ok G) (hr : am_rel G h U H) (hn : h.1 ≠ 0) (hz : H1.size = H.size + 1) (ho : ∀ q, q < H.size → H1[q]? = H[q]?)
    (e1 : h'.1 = h.1 + 1) (hS : ∀ i, i ≠ h.1 → h'.2.2.1 i = h.2.2.1 i) (hm : ∀ i, i ≠ h.1 → h'.2.2.2.1 i = h.2.2.2.1 i) (hl : ∀ i, i ≠ h.1 → h'.2.2.2.2 i = h.2.2.2.2 i)
    (hat : ∀ x, h'.2.2.1 h.1 = some x → am_at G U H1 h'.2.2.2.1 h'.2.2.2.2 h.1 x) : am_rel G h' U H1 := by
  obtain ⟨h1, h2, h3, h4⟩ := hr
  rcases h2 with h2 | ⟨h2, h5, h6⟩
  · exact absurd h2 hn
  refine ⟨fun i x hi => ?_, Or.inr ⟨by omega, by omega, fun i hi => ?_⟩, by omega, h4.kept fun q hq _ => ho q hq⟩
  · by_cases q : i = h.1
    · subst q; exact hat x hi
    · rw [hS i q] at hi
      have h7 := h1 i x hi
      exact am_at_row (hm i q) (hl i q) (am_at_kept (ho _ (am_at_lt h7)) h7)
  · rw [e1] at hi
    rw [hS i (by omega)]
    exact h6 i (by omega)
/-! ===== locals ===== -/
def am_lok (ρ : Nat → Nat) (ls : Array Slot) (nL : Nat) (L : am_L) : Prop := L.length = nL ∧ ls.size = nL ∧ lv_wf ls ∧ ∀ (i : Nat) (v : Value), L[i]? = some (some v) → ls[i]? = some (.val (am_rv ρ v))
def am_pr (ρ : Nat → Nat) (L : am_L) (i : Nat) : Option (Nat × Value) := match L[i]? with
  | some (some v) => some (i, am_rv ρ v)
  | _ => none
def am_prs (ρ : Nat → Nat) (L : am_L) : List (Nat × Value) := (List.range L.length).filterMap (am_pr ρ L)
theorem am_prs_in {ρ : Nat → Nat} {L : am_L} {i : Nat} {v : Value} (h : L[i]? = some (some v)) : (i, am_rv ρ v) ∈ am_prs ρ L := by
  refine List.mem_filterMap.mpr ⟨i, List.mem_range.mpr (List.getElem?_eq_some_iff.mp h).1, ?_⟩
  simp [am_pr, h]
theorem am_prs_of {ρ : Nat → Nat} {L : am_L} {q : Nat × Value} (h : q ∈ am_prs ρ L) : ∃ v, L[q.1]? = some (some v) ∧ q.2 = am_rv ρ v := by
  obtain ⟨i, -, hi⟩ := List.mem_filterMap.mp h
  unfold am_pr at hi
  split at hi
  · rename_i v hv
    cases hi
    exact ⟨v, hv, rfl⟩
  · cases hi
theorem am_lok_has {ρ : Nat → Nat} {ls : Array Slot} {nL : Nat} {L : am_L} (h : am_lok ρ ls nL L) : lv_has ls nL (am_prs ρ L) := by
  obtain ⟨h1, h2, h3, h4⟩ := h
  refine ⟨h2, h3, fun q hq => ?_⟩
  obtain ⟨v, hv, he⟩ := am_prs_of hq
  rw [he]
  exact h4 _ _ hv
theorem am_k1_len (L : am_L) (i : Nat) : (am_k1 L i).length = L.length := by
  unfold am_k1
  split
  · rfl
  · split <;> simp
theorem am_k1_get {L : am_L} {i j : Nat} {v : Value} (h : (am_k1 L i)[j]? = some (some v)) : L[j]? = some (some v) ∧ ¬ (j + 1 = i ∧ v.category = 2) := by
  unfold am_k1 at h
  split at h
  · exact ⟨h, by omega⟩
  · rename_i k
    split at h
    · rename_i w hw
      by_cases q : j = k
      · subst q
        rw [List.getElem?_set_self (List.getElem?_eq_some_iff.mp hw).1] at h
        cases h
      · rw [List.getElem?_set_ne (Ne.symm q)] at h
        exact ⟨h, by omega⟩
    · rename_i w hw
      by_cases q : j = k
      · subst q
        rw [List.getElem?_set_self (List.getElem?_eq_some_iff.mp hw).1] at h
        cases h
      · rw [List.getElem?_set_ne (Ne.symm q)] at h
        exact ⟨h, by omega⟩
    · rename_i h1 h2
      refine ⟨h, fun q => ?_⟩
      obtain ⟨q1, q2⟩ := q
      have q3 : j = k := by omega
      subst q3
      cases v with
      | long w => exact h1 w h
      | double w => exact h2 w h
      | _ => cases q2
theorem am_lok_s1 {ρ : Nat → Nat} {ls' : Array Slot} {nL i : Nat} {L : am_L} {v : Value} (hL : L.length = nL) (hi : i < nL)
    (h : lv_has ls' nL ((i, am_rv ρ v) :: (am_prs ρ L).filter (fun q => !(q.1 == i) && !(q.1 + 1 == i && q.2.category == 2)))) : am_lok ρ ls' nL (am_s1 L i v) := by
  obtain ⟨h1, h2, h3⟩ := h
  refine ⟨by simp [am_s1, am_k1_len, hL], h1, h2, fun j w hj => ?_⟩
  unfold am_s1 at hj
  by_cases q : j = i
  · subst q
    rw [List.getElem?_set_self (by rw [am_k1_len, hL]; exact hi)] at hj
    cases hj
    exact h3 (j, am_rv ρ v) List.mem_cons_self
  · rw [List.getElem?_set_ne (Ne.symm q)] at hj
    obtain ⟨g1, g2⟩ := am_k1_get hj
    refine h3 (j, am_rv ρ w) (List.mem_cons_of_mem _ (List.mem_filter.mpr ⟨am_prs_in g1, ?_⟩))
    simp only [am_rv_cat, Bool.and_eq_true, Bool.not_eq_true', Bool.and_eq_false_iff, beq_eq_false_iff_ne]
    refine ⟨q, ?_⟩
    by_cases z : j + 1 = i
    · exact Or.inr fun e => g2 ⟨z, e⟩
    · exact Or.inl z
theorem am_lok_s2 {ρ : Nat → Nat} {ls' : Array Slot} {nL i : Nat} {L : am_L} {v : Value} (hL : L.length = nL) (hi : i + 1 < nL)
    (h : lv_has ls' nL ((i, am_rv ρ v) :: (am_prs ρ L).filter (fun q => !(q.1 == i) && (!(q.1 == i + 1) && !(q.1 + 1 == i && q.2.category == 2))))) : am_lok ρ ls' nL (am_s2 L i v) := by
  obtain ⟨h1, h2, h3⟩ := h
  refine ⟨by simp [am_s2, am_k1_len, hL], h1, h2, fun j w hj => ?_⟩
  unfold am_s2 at hj
  by_cases q1 : j = i + 1
  · subst q1
    rw [List.getElem?_set_self (by rw [List.length_set, am_k1_len, hL]; exact hi)] at hj
    cases hj
  rw [List.getElem?_set_ne (Ne.symm q1)] at hj
  by_cases q : j = i
  · subst q
    rw [List.getElem?_set_self (by rw [am_k1_len, hL]; omega)] at hj
    cases hj
    exact h3 (j, am_rv ρ v) List.mem_cons_self
  · rw [List.getElem?_set_ne (Ne.symm q)] at hj
    obtain ⟨g1, g2⟩ := am_k1_get hj
    refine h3 (j, am_rv ρ w) (List.mem_cons_of_mem _ (List.mem_filter.mpr ⟨am_prs_in g1, ?_⟩))
    simp only [am_rv_cat, Bool.and_eq_true, Bool.not_eq_true', Bool.and_eq_false_iff, beq_eq_false_iff_ne]
    refine ⟨q, q1, ?_⟩
    by_cases z : j + 1 = i
    · exact Or.inr fun e => g2 ⟨z, e⟩
    · exact Or.inl z
