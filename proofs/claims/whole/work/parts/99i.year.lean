/-! ===== the class's YEAR ===== -/
def isDd (X : tTp) (i : Nat) : Option Nat := if isWd X i 7 = true then some 0 else if isWd X i 8 = true then some 1 else if isWd X i 9 = true then some 2 else if isWd X i 10 = true then some 3 else none
theorem isDd_s {X : tTp} {i k : Nat} (h : isDd X i = some k) : tkc X i = 135 + k ∧ k ≤ 3 := by
  unfold isDd at h
  split at h
  · rename_i c; injection h with h; rw [← h]; exact ⟨(tkc_w (r := 7) (by decide)).mpr c, by decide⟩
  split at h
  · rename_i c; injection h with h; rw [← h]; exact ⟨(tkc_w (r := 8) (by decide)).mpr c, by decide⟩
  split at h
  · rename_i c; injection h with h; rw [← h]; exact ⟨(tkc_w (r := 9) (by decide)).mpr c, by decide⟩
  split at h
  · rename_i c; injection h with h; rw [← h]; exact ⟨(tkc_w (r := 10) (by decide)).mpr c, by decide⟩
  cases h
theorem isDd_n {X : tTp} {i : Nat} (h : isDd X i = none) : tkc X i < 135 ∨ 138 < tkc X i := by
  unfold isDd at h
  split at h
  · cases h
  split at h
  · cases h
  split at h
  · cases h
  split at h
  · cases h
  rename_i c1 c2 c3 c4
  have a1 : ¬ tkc X i = 135 := fun z => c1 ((tkc_w (r := 7) (by decide)).mp z)
  have a2 : ¬ tkc X i = 136 := fun z => c2 ((tkc_w (r := 8) (by decide)).mp z)
  have a3 : ¬ tkc X i = 137 := fun z => c3 ((tkc_w (r := 9) (by decide)).mp z)
  have a4 : ¬ tkc X i = 138 := fun z => c4 ((tkc_w (r := 10) (by decide)).mp z)
  omega
def yA (Y : sYear) (e s p : Nat) : sYear := (Y.1 + 1, fup Y.2.1 Y.1 e, fup Y.2.2.1 Y.1 s, fup Y.2.2.2 Y.1 p)
def pYl (X : tTp) (V : sVal) (nm : Nat → Nat) (i : Nat) (Y : sYear) : Nat ⊕ (Nat × sYear) := match isDd X i with
  | none => .inl (wr X i 1)
  | some e => if 40 ≤ Y.1 then .inl (wr X i 5) else if e = 0 then .inr (i + 1, yA Y 0 0 0) else (match pTold X nm (vN V) (i + 1) with
    | .inl c => .inl c
    | .inr s => if e = 2 then (match pNumI X (i + 2) 0 (nI (vP V) - nI 1) with
        | .inl c => .inl c
        | .inr p => .inr (i + 3, yA Y e s p))
      else .inr (i + 2, yA Y e s 0))
def xYd (μ : am_M2) (Y : sYear) : Prop := μ 31 3 = nI Y.1 ∧ ∀ i, i < Y.1 → μ 32 i = nI (Y.2.1 i) ∧ μ 33 i = ySo Y i ∧ μ 34 i = yPl Y i
def frY (μ μ' : am_M2) : Prop := ∀ i k, ¬ (i = 3 ∧ 2 ≤ k) → ¬ (31 ≤ i ∧ i ≤ 34) → μ' i k = μ i k
theorem frY_tr {μ μ' μ'' : am_M2} (h : frY μ μ') (h' : frY μ' μ'') : frY μ μ'' := fun i k a b => (h' i k a b).trans (h i k a b)
theorem frY_rf (μ : am_M2) : frY μ μ := fun _ _ _ _ => rfl
theorem frY_3 {μ μ' : am_M2} (h : frT3 μ μ') : frY μ μ' := fun i k a _ => h i k a
def ylQ (X : tTp) (n : Nat) (μ : am_M2) (ν : am_N2) (r : Nat ⊕ (Nat × sYear)) (y : am_R) : Prop := match r with
  | .inl c => ∃ μ' ν', y = (some (.int (sB false)), am_hp n μ' ν') ∧ μ' 3 7 = nI c ∧ frY μ μ' ∧ frKL ν ν'
  | .inr q => ∃ μ' ν', y = (some (.int (sB true)), am_hp n μ' ν') ∧ xTk μ' ν' X q.1 ∧ xYd μ' q.2 ∧ frY μ μ' ∧ frKL ν ν'
theorem yA_x {μ μ' : am_M2} {Y : sYear} {e s p : Nat} (hY : xYd μ Y) (h1 : μ' 31 3 = nI (Y.1 + 1)) (h2 : μ' 32 Y.1 = nI e) (h3 : μ' 33 Y.1 = if e = 0 then -1 else nI s) (h4 : μ' 34 Y.1 = if e = 2 then nI p else -1) (hf : ∀ i k, 32 ≤ i → i ≤ 34 → k ≠ Y.1 → μ' i k = μ i k) : xYd μ' (yA Y e s p) := by
  refine ⟨h1, fun k hk => ?_⟩
  have hk' : k < Y.1 + 1 := hk
  have hF : ∀ {α : Type} (f : Nat → α) (a : Nat) (v : α), fup f a v a = v := fun f a v => if_pos rfl
  have hFn : ∀ {α : Type} (f : Nat → α) (a b : Nat) (v : α), b ≠ a → fup f a v b = f b := fun f a b v hb => if_neg hb
  unfold ySo yPl
  show μ' 32 k = nI (fup Y.2.1 Y.1 e k) ∧ μ' 33 k = (if fup Y.2.1 Y.1 e k = 0 then -1 else nI (fup Y.2.2.1 Y.1 s k)) ∧ μ' 34 k = (if fup Y.2.1 Y.1 e k = 2 then nI (fup Y.2.2.2 Y.1 p k) else -1)
  by_cases c : k = Y.1
  · rw [c, hF, hF, hF]; exact ⟨h2, h3, h4⟩
  · rw [hFn _ _ _ _ c, hFn _ _ _ _ c, hFn _ _ _ _ c, hf 32 k (by decide) (by decide) c, hf 33 k (by decide) (by decide) c, hf 34 k (by decide) (by decide) c]
    exact hY.2 k (by omega)
def ylA (μ μ1 : am_M2) (Y : sYear) (e : Nat) : Prop := μ1 31 3 = nI (Y.1 + 1) ∧ μ1 32 Y.1 = nI e ∧ μ1 33 Y.1 = -1 ∧ μ1 34 Y.1 = -1 ∧ ∀ i k, ¬ (i = 3 ∧ 2 ≤ k) → ¬ (i = 31 ∧ k = 3) → ¬ (32 ≤ i ∧ i ≤ 34 ∧ k = Y.1) → μ1 i k = μ i k
theorem ylA_fr {μ μ1 : am_M2} {Y : sYear} {e : Nat} (h : ylA μ μ1 Y e) : frY μ μ1 := fun i k a b => h.2.2.2.2 i k a (by omega) (by omega)
theorem dd_sw : ∀ c, c < 148 → am_tsw 1 39 135 138 [31, 33, 35, 37] (nI c) = some (if c = 135 then 32 else if c = 136 then 34 else if c = 137 then 36 else if c = 138 then 38 else 40) := by decide +kernel
/-- StoneSecrets$Year.deedAt(I)I -/
theorem s_dd0 (d : Nat) (h : am_H) : am_run (d + 1) 61 [.int (nI 135)] (h) = some (some (.int (nI 0)), h) := by
  refine am_r61 (d := d + 0) (Nat.le_of_ble_eq_true rfl) [some (.int (nI 135))] rfl ?_
  refine am_q_iload_n rfl rfl ?_
  refine am_q_tsw (t := 32) rfl (dd_sw _ (by decide)) ?_
  refine am_q_iconst (v := nI 0) rfl rfl ?_
  refine am_q_ireturn rfl rfl rfl ?_
  rfl

/-- StoneSecrets$Year.deedAt(I)I -/
theorem s_dd1 (d : Nat) (h : am_H) : am_run (d + 1) 61 [.int (nI 136)] (h) = some (some (.int (nI 1)), h) := by
  refine am_r61 (d := d + 0) (Nat.le_of_ble_eq_true rfl) [some (.int (nI 136))] rfl ?_
  refine am_q_iload_n rfl rfl ?_
  refine am_q_tsw (t := 34) rfl (dd_sw _ (by decide)) ?_
  refine am_q_iconst (v := nI 1) rfl rfl ?_
  refine am_q_ireturn rfl rfl rfl ?_
  rfl

/-- StoneSecrets$Year.deedAt(I)I -/
theorem s_dd2 (d : Nat) (h : am_H) : am_run (d + 1) 61 [.int (nI 137)] (h) = some (some (.int (nI 2)), h) := by
  refine am_r61 (d := d + 0) (Nat.le_of_ble_eq_true rfl) [some (.int (nI 137))] rfl ?_
  refine am_q_iload_n rfl rfl ?_
  refine am_q_tsw (t := 36) rfl (dd_sw _ (by decide)) ?_
  refine am_q_iconst (v := nI 2) rfl rfl ?_
  refine am_q_ireturn rfl rfl rfl ?_
  rfl

/-- StoneSecrets$Year.deedAt(I)I -/
theorem s_dd3 (d : Nat) (h : am_H) : am_run (d + 1) 61 [.int (nI 138)] (h) = some (some (.int (nI 3)), h) := by
  refine am_r61 (d := d + 0) (Nat.le_of_ble_eq_true rfl) [some (.int (nI 138))] rfl ?_
  refine am_q_iload_n rfl rfl ?_
  refine am_q_tsw (t := 38) rfl (dd_sw _ (by decide)) ?_
  refine am_q_iconst (v := nI 3) rfl rfl ?_
  refine am_q_ireturn rfl rfl rfl ?_
  rfl

/-- StoneSecrets$Year.deedAt(I)I -/
theorem s_ddX (d : Nat) (c : Nat) (hc : c < 148) (hx : c < 135 ∨ 138 < c) (h : am_H) : am_run (d + 1) 61 [.int (nI c)] (h) = some (some (.int (-1)), h) := by
  refine am_r61 (d := d + 0) (Nat.le_of_ble_eq_true rfl) [some (.int (nI c))] rfl ?_
  refine am_q_iload_n rfl rfl ?_
  refine am_q_tsw (t := 40) rfl ((dd_sw _ hc).trans (by rw [if_neg (by omega), if_neg (by omega), if_neg (by omega), if_neg (by omega)])) ?_
  refine am_q_iconst (v := -1) rfl rfl ?_
  refine am_q_ireturn rfl rfl rfl ?_
  rfl

theorem s_deed (d c e : Nat) (hc : c = 135 + e) (he : e ≤ 3) (h : am_H) : am_run (d + 1) 61 [.int (nI c)] h = some (some (.int (nI e)), h) := by
  subst hc
  rcases (show e = 0 ∨ e = 1 ∨ e = 2 ∨ e = 3 by omega) with rfl | rfl | rfl | rfl
  · exact s_dd0 d h
  · exact s_dd1 d h
  · exact s_dd2 d h
  · exact s_dd3 d h
theorem s_ylX (d : Nat) (n i : Nat) {X : tTp} {V : sVal} {nm : Nat → Nat} {Y : sYear} {μ : am_M2} (ν : am_N2) (hX : tpOk X) (hT : xTk μ ν X i) (hL : xLg ν) (hV : xVal μ V) (hn : ∀ s, s < vN V → ν 6 s = lN (nm s) ∧ nm s < 2 ^ 63) (hY : xYd μ Y) (hY4 : Y.1 ≤ 40) (h : isDd X i = none) : am_w (d + 6) (Option.some FieldType.boolean) am_g60 0 [some (.ref 31), some (.ref 3), some (.ref 5), none, none] [] (am_hp n μ ν) (ylQ X n μ ν (.inl (wr X i 1))) := by
  have ht := tkc_148 X i
  refine am_q_aload_n rfl rfl ?_
  refine am_q_gi rfl rfl rfl hT.2.2.2.1 ?_
  refine am_q_call rfl rfl (s_ddX _ _ ht (isDd_n h) _) rfl ?_
  refine am_q_istore_n [some _, some _, some _, some _, none] rfl (Nat.le_of_ble_eq_true rfl) rfl ?_
  refine am_q_iload_n rfl rfl ?_
  refine am_q_iconst (v := -1) rfl rfl ?_
  refine am_q_icmp_ne rfl (fun c_10 => absurd rfl c_10) (fun c_10 => ?_)
  refine am_q_aload_n rfl rfl ?_
  refine am_q_iconst (v := nI 1) rfl rfl ?_
  refine am_q_call rfl rfl (s_wrong _ 1 n i ν hT.2.2.1) rfl ?_
  refine am_q_ireturn rfl rfl (sB_ok _) ?_
  exact ⟨_, _, rfl, am_up_eq, frY_3 frT3_7, frKL_rf ν⟩

theorem s_yl5 (d e : Nat) (n i : Nat) {X : tTp} {V : sVal} {nm : Nat → Nat} {Y : sYear} {μ : am_M2} (ν : am_N2) (hX : tpOk X) (hT : xTk μ ν X i) (hL : xLg ν) (hV : xVal μ V) (hn : ∀ s, s < vN V → ν 6 s = lN (nm s) ∧ nm s < 2 ^ 63) (hY : xYd μ Y) (hY4 : Y.1 ≤ 40) (h : isDd X i = some e) (h5 : 40 ≤ Y.1) : am_w (d + 6) (Option.some FieldType.boolean) am_g60 0 [some (.ref 31), some (.ref 3), some (.ref 5), none, none] [] (am_hp n μ ν) (ylQ X n μ ν (.inl (wr X i 5))) := by
  obtain ⟨hk1, hk2⟩ := isDd_s h
  refine am_q_aload_n rfl rfl ?_
  refine am_q_gi rfl rfl rfl hT.2.2.2.1 ?_
  refine am_q_call rfl rfl (s_deed _ _ e hk1 hk2 _) rfl ?_
  refine am_q_istore_n [some _, some _, some _, some _, none] rfl (Nat.le_of_ble_eq_true rfl) rfl ?_
  refine am_q_iload_n rfl rfl ?_
  refine am_q_iconst (v := -1) rfl rfl ?_
  refine am_q_icmp_ne rfl (fun c_10 => ?_) (fun c_10 => absurd (show nI e < 0 by rw [show nI e = -1 from c_10]; decide) (nI_pos (by omega)))
  refine am_q_aload_n rfl rfl ?_
  refine am_q_gi rfl rfl rfl hY.1 ?_
  refine am_q_bipush (v := nI 40) rfl rfl ?_
  refine am_q_iltN rfl (by omega) (by omega) (fun c_25 => absurd c_25 (by omega)) (fun c_25 => ?_)
  refine am_q_aload_n rfl rfl ?_
  refine am_q_iconst (v := nI 5) rfl rfl ?_
  refine am_q_call rfl rfl (s_wrong _ 5 n i ν hT.2.2.1) rfl ?_
  refine am_q_ireturn rfl rfl (sB_ok _) ?_
  exact ⟨_, _, rfl, am_up_eq, frY_3 frT3_7, frKL_rf ν⟩

theorem s_ylPre (d e : Nat) (n i : Nat) {X : tTp} {V : sVal} {nm : Nat → Nat} {Y : sYear} {μ : am_M2} (ν : am_N2) (hX : tpOk X) (hT : xTk μ ν X i) (hL : xLg ν) (hV : xVal μ V) (hn : ∀ s, s < vN V → ν 6 s = lN (nm s) ∧ nm s < 2 ^ 63) (hY : xYd μ Y) (hY4 : Y.1 ≤ 40) (h : isDd X i = some e) (h5 : Y.1 < 40) (Q : am_R → Prop) (K : ∀ μ1 ν1, xTk μ1 ν1 X (i + 1) → xLg ν1 → ylA μ μ1 Y e → frKL ν ν1 → am_w (d + 6) (Option.some FieldType.boolean) am_g60 78 [some (.ref 31), some (.ref 3), some (.ref 5), some (.int (nI e)), some (.int (nI Y.1))] [] (am_hp n μ1 ν1) Q) : am_w (d + 6) (Option.some FieldType.boolean) am_g60 0 [some (.ref 31), some (.ref 3), some (.ref 5), none, none] [] (am_hp n μ ν) (Q) := by
  obtain ⟨hk1, hk2⟩ := isDd_s h
  refine am_q_aload_n rfl rfl ?_
  refine am_q_gi rfl rfl rfl hT.2.2.2.1 ?_
  refine am_q_call rfl rfl (s_deed _ _ e hk1 hk2 _) rfl ?_
  refine am_q_istore_n [some _, some _, some _, some _, none] rfl (Nat.le_of_ble_eq_true rfl) rfl ?_
  refine am_q_iload_n rfl rfl ?_
  refine am_q_iconst (v := -1) rfl rfl ?_
  refine am_q_icmp_ne rfl (fun c_10 => ?_) (fun c_10 => absurd (show nI e < 0 by rw [show nI e = -1 from c_10]; decide) (nI_pos (by omega)))
  refine am_q_aload_n rfl rfl ?_
  refine am_q_gi rfl rfl rfl hY.1 ?_
  refine am_q_bipush (v := nI 40) rfl rfl ?_
  refine am_q_iltN rfl (by omega) (by omega) (fun c_25 => ?_) (fun c_25 => absurd c_25 (by omega))
  refine am_q_aload_n rfl rfl ?_
  refine am_q_gi rfl rfl rfl hY.1 ?_
  refine am_q_istore [some _, some _, some _, some _, some _] rfl (Nat.le_of_ble_eq_true rfl) rfl ?_
  refine am_q_aload_n rfl rfl ?_
  refine am_q_dupr rfl ?_
  refine am_q_gi rfl rfl rfl hY.1 ?_
  refine am_q_iconst (v := nI 1) rfl rfl ?_
  refine am_q_iadd rfl (nI_add _ _) ?_
  refine am_q_pi rfl rfl rfl (Or.inl rfl) ?_
  refine am_q_aload_n rfl rfl ?_
  refine am_q_gr rfl rfl rfl ?_
  refine am_q_iload rfl rfl ?_
  refine am_q_iload_n rfl rfl ?_
  refine am_q_iast rfl rfl (by first | exact am_ix_nI (by omega) (by omega) | rfl) rfl ?_
  refine am_q_aload_n rfl rfl ?_
  refine am_q_gr rfl rfl rfl ?_
  refine am_q_iload rfl rfl ?_
  refine am_q_iconst (v := -1) rfl rfl ?_
  refine am_q_iast rfl rfl (by first | exact am_ix_nI (by omega) (by omega) | rfl) rfl ?_
  refine am_q_aload_n rfl rfl ?_
  refine am_q_gr rfl rfl rfl ?_
  refine am_q_iload rfl rfl ?_
  refine am_q_iconst (v := -1) rfl rfl ?_
  refine am_q_iast rfl rfl (by first | exact am_ix_nI (by omega) (by omega) | rfl) rfl ?_
  refine am_q_aload_n rfl rfl ?_
  have hx : ∀ r k, r = 3 ∨ r = 4 → am_up (am_up (am_up (am_up μ 31 3 (nI (Y.1 + 1))) 32 Y.1 (nI e)) 33 Y.1 (-1)) 34 Y.1 (-1) r k = μ r k := fun r k z => by rw [am_up_ne (by omega), am_up_ne (by omega), am_up_ne (by omega), am_up_ne (by omega)]
  obtain ⟨μ1, ν1, hc1, hT1, hf1, hl1⟩ := s_step (d + 2) n (i + 1) (μ := am_up (am_up (am_up (am_up μ 31 3 (nI (Y.1 + 1))) 32 Y.1 (nI e)) 33 Y.1 (-1)) 34 Y.1 (-1)) ν hX ⟨(hx 3 1 (by omega)).trans hT.1.1, fun j hj => (hx 4 j (by omega)).trans (hT.1.2 j hj)⟩ ((hx 3 2 (by omega)).trans hT.2.1) hL
  refine am_q_call rfl rfl (hc1) rfl ?_
  refine K μ1 ν1 hT1 (xLg_S hl1 hL) ⟨?_, ?_, ?_, ?_, fun a b z1 z2 z3 => ?_⟩ hl1
  · rw [hf1 31 3 (by omega), am_up_ne (by omega), am_up_ne (by omega), am_up_ne (by omega)]; exact am_up_eq
  · rw [hf1 32 _ (by omega), am_up_ne (by omega), am_up_ne (by omega)]; exact am_up_eq
  · rw [hf1 33 _ (by omega), am_up_ne (by omega)]; exact am_up_eq
  · rw [hf1 34 _ (by omega)]; exact am_up_eq
  · rw [hf1 a b (by omega), am_up_ne (by omega), am_up_ne (by omega), am_up_ne (by omega), am_up_ne (by omega)]
