/-! ===== WAYS ===== -/
/-- the PLACES of a set, rising -/
def bl (u : Nat) : List Nat := (List.range 8).filter (fun p => u.testBit p)
def lo (u : Nat) : Nat := (bl u).headD 0
theorem bl_nil : ∀ u, u < 256 → bl u = [] → u = 0 := by decide +kernel
theorem bl_cons : ∀ u, u < 256 → ¬ u = 0 → (nI u &&& -(nI u)) = nI (2 ^ lo u) ∧ u ^^^ 2 ^ lo u < 256 ∧ bl u = lo u :: bl (u ^^^ 2 ^ lo u) ∧ lo u < 8 := by decide +kernel
theorem bl_len : ∀ u, u < 256 → (bl u).length ≤ 8 := by decide +kernel
theorem bl_mem (u p : Nat) : p ∈ bl u ↔ p < 8 ∧ u.testBit p = true := by simp [bl]
/-- all WAYS to set some, one behind another -/
def waysL (V : sVal) : List Nat → (Nat → Option Nat) → List (Nat → Option Nat)
  | [], pl => [pl]
  | s :: ms, pl => (bl (sOpen V pl s)).flatMap (fun p => waysL V ms (fup pl s (some p)))
/-- PLACES as they may be -/
def pOk (V : sVal) (pl : Nat → Option Nat) : Prop := ∀ s, s < 6 → (∀ p, pl s = some p → p < vP V) ∧ (vN V ≤ s → pl s = none) ∧ ∀ s', s' < 6 → s ≠ s' → pl s ≠ none → pl s ≠ pl s'
theorem pOk_8 {V : sVal} {pl : Nat → Option Nat} (hO : vOk V) (h : pOk V pl) : sPl8 pl := fun s hs p hp => Nat.lt_of_lt_of_le ((h s hs).1 p hp) hO.1.2.1
theorem pOk_up {V : sVal} {pl : Nat → Option Nat} (h : pOk V pl) {s p : Nat} (hs : s < vN V) (hp : p ∈ bl (sOpen V pl s)) : pOk V (fup pl s (some p)) := by
  have hq := ((bl_mem _ _).mp hp).2
  rw [sOpen, sBits_tb] at hq
  simp only [sMay, Bool.and_eq_true, Bool.not_eq_true', decide_eq_true_eq] at hq
  have hfree : ∀ x, x < 6 → pl x ≠ some p := fun x hx e => by
    have := (sTk_tb pl p).mpr ⟨x, hx, e⟩
    rw [hq.2.1] at this; cases this
  intro x hx
  obtain ⟨h1, h2, h3⟩ := h x hx
  unfold fup
  by_cases z : x = s
  · subst z
    rw [if_pos rfl]
    refine ⟨fun y e => by cases e; exact hq.1, fun e => absurd hs (by omega), fun s' hs' hne _ => ?_⟩
    rw [if_neg (fun e => hne e.symm)]
    exact fun e => hfree s' hs' e.symm
  · rw [if_neg z]
    refine ⟨h1, h2, fun s' hs' hne hnn => ?_⟩
    by_cases z' : s' = s
    · rw [if_pos z']; exact hfree x hx
    · rw [if_neg z']; exact h3 s' hs' hne hnn
theorem waysL_ok {V : sVal} : ∀ (ms : List Nat) (pl : Nat → Option Nat), (∀ s ∈ ms, s < vN V) → pOk V pl → ∀ w ∈ waysL V ms pl, pOk V w
  | [], pl, _, h, w, hw => by rw [waysL, List.mem_singleton] at hw; rw [hw]; exact h
  | s :: ms, pl, hm, h, w, hw => by
    rw [waysL, List.mem_flatMap] at hw
    obtain ⟨p, hp, hw⟩ := hw
    exact waysL_ok ms _ (fun x hx => hm x (List.mem_cons_of_mem _ hx)) (pOk_up h (hm s List.mem_cons_self) hp) w hw
theorem waysL_len {V : sVal} : ∀ (ms : List Nat) (pl : Nat → Option Nat), vP V ≤ 8 → (waysL V ms pl).length ≤ 8 ^ ms.length
  | [], pl, _ => Nat.le_refl _
  | s :: ms, pl, hP => by
    rw [waysL, List.length_flatMap, List.length_cons, Nat.pow_succ]
    have h8 := bl_len (sOpen V pl s) (Nat.lt_of_lt_of_le (sBits_lt _ _) (Nat.pow_le_pow_right (by decide) hP))
    have : ∀ l : List Nat, ((l.map (fun p => (waysL V ms (fup pl s (some p))).length)).sum) ≤ l.length * 8 ^ ms.length := by
      intro l
      induction l with
      | nil => simp
      | cons a l ih =>
        have := waysL_len (V := V) ms (fup pl s (some a)) hP
        rw [List.map_cons, List.sum_cons, List.length_cons, Nat.add_mul]
        omega
    have h2 := this (bl (sOpen V pl s))
    have h3 : (bl (sOpen V pl s)).length * 8 ^ ms.length ≤ 8 * 8 ^ ms.length := Nat.mul_le_mul h8 (Nat.le_refl _)
    omega
/-- those of a set, rising -/
def mvL (b : Nat) (n : Nat) : List Nat := (List.range n).filter (fun s => b.testBit s)
theorem mvL_s (b n : Nat) : mvL b (n + 1) = if b.testBit n = true then mvL b n ++ [n] else mvL b n := by
  rw [mvL, List.range_succ, List.filter_append]
  split
  · rename_i h; simp [mvL, h]
  · rename_i h; simp [mvL, h]
theorem mvL_len (b : Nat) : ∀ n, (mvL b n).length ≤ n := fun n => Nat.le_trans (List.length_filter_le _ _) (by simp)
theorem mvL_mem (b n s : Nat) : s ∈ mvL b n ↔ s < n ∧ b.testBit s = true := by simp [mvL]
theorem mvL_nd (b n : Nat) : (mvL b n).Nodup := List.Nodup.sublist List.filter_sublist List.nodup_range
def stP (pl : Nat → Option Nat) (st : Nat) (s : Nat) : Option Nat := if st.testBit s = true then pl s else none
def xMv (μ : am_M2) (ms : List Nat) : Prop := μ 120 5 = nI ms.length ∧ ∀ i (h : i < ms.length), μ 121 i = nI ms[i]
theorem xMv_push {μ : am_M2} {ms : List Nat} {j : Nat} (h : xMv μ ms) : xMv (am_up (am_up μ 121 ms.length (nI j)) 120 5 (nI (ms.length + 1))) (ms ++ [j]) := by
  refine ⟨by simp [am_up], fun i hi => ?_⟩
  rw [List.length_append, List.length_singleton] at hi
  by_cases z : i = ms.length
  · subst z; simp [am_up]
  · have hi' : i < ms.length := by omega
    rw [List.getElem_append_left hi']
    simp [am_up, z, h.2 i hi']
/-- the WAYS alone changed -/
def frW (μ μ' : am_M2) : Prop := ∀ i, i < 120 ∨ 124 ≤ i → μ' i = μ i
theorem frW_rf (μ : am_M2) : frW μ μ := fun _ _ => rfl
theorem frW_tr {μ μ' μ'' : am_M2} (h : frW μ μ') (h' : frW μ' μ'') : frW μ μ'' := fun i q => (h' i q).trans (h i q)
theorem frW_up {μ : am_M2} {i k : Nat} {v : Int32} (h : 120 ≤ i ∧ i < 124) : frW μ (am_up μ i k v) := fun j q => by funext k; unfold am_up; rw [if_neg (by omega)]
theorem fr_W {μ μ' : am_M2} (h : frW μ μ') : fr μ μ' := fun i k q => by rw [h i (by omega)]
theorem frS (μ : am_M2) (j : Nat) (v : Int32) : frW μ (am_up μ 123 j v) := frW_up (by omega)
theorem stP_inv {μ1 : am_M2} {pl : Nat → Option Nat} {st j : Nat} {v : Int32} (h : ∀ s, s < j → μ1 123 s = sn_spot (stP pl st s)) (hv : v = sn_spot (stP pl st j)) : ∀ s, s < j + 1 → am_up μ1 123 j v 123 s = sn_spot (stP pl st s) := by
  intro s hs
  unfold am_up
  by_cases z : s = j
  · subst z; simp [hv]
  · simp [z, h s (by omega)]
theorem s_wbL (d : Nat) (n : Nat) {pl : Nat → Option Nat} {μ : am_M2} (ν : am_N2) (lo st : Nat) (hl : lo < 64) (hs : st < 64) (hg : ∀ k, k < 6 → μ 37 k = sn_spot (pl k)) : ∀ (m j : Nat) (μ1 : am_M2), j + m = 6 → frW μ μ1 ∧ xMv μ1 (mvL lo j) ∧ μ1 120 6 = nI 0 ∧ (∀ s, s < j → μ1 123 s = sn_spot (stP pl st s)) → am_w (d + 1) (Option.none : Option FieldType) am_g118 13 [some (.ref 120), some (.ref 37), some (.int (nI lo)), some (.int (nI st)), some (.int (nI j))] [] (am_hp n μ1 ν) (fun y => ∃ (μ' : am_M2), y = (none, am_hp n μ' ν) ∧ frW μ μ' ∧ xMv μ' (mvL lo 6) ∧ μ' 120 6 = nI 0 ∧ (∀ s, s < 6 → μ' 123 s = sn_spot (stP pl st s))) := by
  intro m
  induction m with
  | zero =>
    intro j μ1 hj hinv
    refine am_q_iload rfl rfl ?_
    refine am_q_bipush (v := nI 6) rfl rfl ?_
    refine am_q_igeN rfl (by omega) (by omega) (fun c_17 => ?_) (fun c_17 => absurd c_17 (by omega))
    refine am_q_return rfl rfl ?_
    exact ⟨_, rfl, hinv.1, by rw [← show j = 6 by omega]; exact hinv.2.1, hinv.2.2.1, fun s hs => hinv.2.2.2 s (by omega)⟩
  | succ m ih =>
    intro j μ1 hj hinv
    have hml := mvL_len lo j
    have e := fun m2 => ih (j + 1) m2 (by omega)
    rw [mvL_s] at e
    refine am_q_iload rfl rfl ?_
    refine am_q_bipush (v := nI 6) rfl rfl ?_
    refine am_q_igeN rfl (by omega) (by omega) (fun c_17 => absurd c_17 (by omega)) (fun c_17 => ?_)
    refine am_q_aload_n rfl rfl ?_
    refine am_q_gr rfl rfl rfl ?_
    refine am_q_iload rfl rfl ?_
    refine am_q_iload_n rfl rfl ?_
    refine am_q_iload rfl rfl ?_
    refine am_q_call rfl rfl (s_hasN _ _ _ (by omega) (by omega) _) rfl ?_
    refine am_q_if_eqB rfl (fun c_32 => ?_) (fun c_32 => ?_)
    · have i1 := stP_inv (v := nI 0) hinv.2.2.2 (by rw [stP, if_neg (by simp [c_32])]; rfl)
      have f1 : frW μ (am_up μ1 123 j (nI 0)) := frW_tr hinv.1 (frS _ _ _)
      refine am_q_iconst (v := nI 0) rfl rfl ?_
      refine am_q_iast rfl rfl (by first | exact am_ix_nI (by omega) (by omega) | rfl) rfl ?_
      refine am_q_iload_n rfl rfl ?_
      refine am_q_iload rfl rfl ?_
      refine am_q_call rfl rfl (s_hasN _ _ _ (by omega) (by omega) _) rfl ?_
      refine am_q_if_eqB rfl (fun c_50 => ?_) (fun c_50 => ?_)
      · rw [if_neg (by simp [c_50])] at e
        refine am_q_iinc [some _, some _, some _, some _, some _] rfl (c := nI 1) rfl rfl (Nat.le_of_ble_eq_true rfl) (nI_add _ _) rfl ?_
        refine am_q_goto rfl ?_
        first | exact e _ ⟨f1, hinv.2.1, hinv.2.2.1, i1⟩ | exact e _ ⟨frW_tr f1 (frW_tr (frW_up (by omega)) (frW_up (by omega))), xMv_push (show xMv _ _ from hinv.2.1), hinv.2.2.1, i1⟩
      · rw [if_pos c_50] at e
        refine am_q_aload_n rfl rfl ?_
        refine am_q_gr rfl rfl rfl ?_
        refine am_q_aload_n rfl rfl ?_
        refine am_q_gi rfl rfl rfl hinv.2.1.1 ?_
        refine am_q_iload rfl rfl ?_
        refine am_q_iast rfl rfl (by first | exact am_ix_nI (by omega) (by omega) | rfl) rfl ?_
        refine am_q_aload_n rfl rfl ?_
        refine am_q_dupr rfl ?_
        refine am_q_gi rfl rfl rfl hinv.2.1.1 ?_
        refine am_q_iconst (v := nI 1) rfl rfl ?_
        refine am_q_iadd rfl (nI_add _ _) ?_
        refine am_q_pi rfl rfl rfl (Or.inl rfl) ?_
        refine am_q_iinc [some _, some _, some _, some _, some _] rfl (c := nI 1) rfl rfl (Nat.le_of_ble_eq_true rfl) (nI_add _ _) rfl ?_
        refine am_q_goto rfl ?_
        first | exact e _ ⟨f1, hinv.2.1, hinv.2.2.1, i1⟩ | exact e _ ⟨frW_tr f1 (frW_tr (frW_up (by omega)) (frW_up (by omega))), xMv_push (show xMv _ _ from hinv.2.1), hinv.2.2.1, i1⟩
    · have i1 := stP_inv (v := sn_spot (pl j)) hinv.2.2.2 (by rw [stP, if_pos c_32])
      have f1 : frW μ (am_up μ1 123 j (sn_spot (pl j))) := frW_tr hinv.1 (frS _ _ _)
      refine am_q_aload_n rfl rfl ?_
      refine am_q_iload rfl rfl ?_
      refine am_q_iald rfl rfl (by first | exact am_ix_nI (by omega) (by omega) | rfl) ((congrFun (hinv.1 37 (by omega)) _).trans (hg _ (by omega))) ?_
      refine am_q_goto rfl ?_
      refine am_q_iast rfl rfl (by first | exact am_ix_nI (by omega) (by omega) | rfl) rfl ?_
      refine am_q_iload_n rfl rfl ?_
      refine am_q_iload rfl rfl ?_
      refine am_q_call rfl rfl (s_hasN _ _ _ (by omega) (by omega) _) rfl ?_
      refine am_q_if_eqB rfl (fun c_50 => ?_) (fun c_50 => ?_)
      · rw [if_neg (by simp [c_50])] at e
        refine am_q_iinc [some _, some _, some _, some _, some _] rfl (c := nI 1) rfl rfl (Nat.le_of_ble_eq_true rfl) (nI_add _ _) rfl ?_
        refine am_q_goto rfl ?_
        first | exact e _ ⟨f1, hinv.2.1, hinv.2.2.1, i1⟩ | exact e _ ⟨frW_tr f1 (frW_tr (frW_up (by omega)) (frW_up (by omega))), xMv_push (show xMv _ _ from hinv.2.1), hinv.2.2.1, i1⟩
      · rw [if_pos c_50] at e
        refine am_q_aload_n rfl rfl ?_
        refine am_q_gr rfl rfl rfl ?_
        refine am_q_aload_n rfl rfl ?_
        refine am_q_gi rfl rfl rfl hinv.2.1.1 ?_
        refine am_q_iload rfl rfl ?_
        refine am_q_iast rfl rfl (by first | exact am_ix_nI (by omega) (by omega) | rfl) rfl ?_
        refine am_q_aload_n rfl rfl ?_
        refine am_q_dupr rfl ?_
        refine am_q_gi rfl rfl rfl hinv.2.1.1 ?_
        refine am_q_iconst (v := nI 1) rfl rfl ?_
        refine am_q_iadd rfl (nI_add _ _) ?_
        refine am_q_pi rfl rfl rfl (Or.inl rfl) ?_
        refine am_q_iinc [some _, some _, some _, some _, some _] rfl (c := nI 1) rfl rfl (Nat.le_of_ble_eq_true rfl) (nI_add _ _) rfl ?_
        refine am_q_goto rfl ?_
        first | exact e _ ⟨f1, hinv.2.1, hinv.2.2.1, i1⟩ | exact e _ ⟨frW_tr f1 (frW_tr (frW_up (by omega)) (frW_up (by omega))), xMv_push (show xMv _ _ from hinv.2.1), hinv.2.2.1, i1⟩

/-- StoneSecrets$Ways.begin([III)V -/
theorem s_wbegin (d : Nat) (n : Nat) {pl : Nat → Option Nat} {μ : am_M2} (ν : am_N2) (lo st : Nat) (hl : lo < 64) (hs : st < 64) (hg : ∀ k, k < 6 → μ 37 k = sn_spot (pl k)) : ∃ (μ' : am_M2), am_run (d + 2) 118 [.ref 120, .ref 37, .int (nI lo), .int (nI st)] (am_hp n μ ν) = some (none, am_hp n μ' ν) ∧ frW μ μ' ∧ xMv μ' (mvL lo 6) ∧ μ' 120 6 = nI 0 ∧ (∀ s, s < 6 → μ' 123 s = sn_spot (stP pl st s)) := by
  have key : ∃ r, am_run (d + 2) 118 [.ref 120, .ref 37, .int (nI lo), .int (nI st)] (am_hp n μ ν) = some r ∧ ∃ (μ' : am_M2), r = (none, am_hp n μ' ν) ∧ frW μ μ' ∧ xMv μ' (mvL lo 6) ∧ μ' 120 6 = nI 0 ∧ (∀ s, s < 6 → μ' 123 s = sn_spot (stP pl st s)) := am_run_wE (k := 118) (d := d + 1) rfl rfl (Nat.le_of_ble_eq_true rfl) [some (.ref 120), some (.ref 37), some (.int (nI lo)), some (.int (nI st)), none] rfl (by
    refine am_q_aload_n rfl rfl ?_
    refine am_q_iconst (v := nI 0) rfl rfl ?_
    refine am_q_pi rfl rfl rfl (Or.inl rfl) ?_
    refine am_q_aload_n rfl rfl ?_
    refine am_q_iconst (v := nI 0) rfl rfl ?_
    refine am_q_pi rfl rfl rfl (Or.inr ⟨rfl, by first | exact Or.inl rfl | exact Or.inr rfl⟩) ?_
    refine am_q_iconst (v := nI 0) rfl rfl ?_
    refine am_q_istore [some _, some _, some _, some _, some _] rfl (Nat.le_of_ble_eq_true rfl) rfl ?_
    exact s_wbL d n ν lo st hl hs hg 6 0 _ (by omega) ⟨frW_tr (frW_up (by omega)) (frW_up (by omega)), ⟨rfl, fun i h => absurd h (Nat.not_lt_zero i)⟩, rfl, fun s h => absurd h (Nat.not_lt_zero s)⟩)
  obtain ⟨r, h1, μ', h2, h3⟩ := key
  exact ⟨μ', by rw [h1, h2], h3⟩
