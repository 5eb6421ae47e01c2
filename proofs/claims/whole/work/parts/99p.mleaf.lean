/-! ===== the model's parser: leaves ===== -/
def mLg (ν : am_N2) : Prop := ∀ r, r < 22 → ν 138 r = lN (cw (lg r))
def mP (μ : am_M2) (ν : am_N2) (X : tTp) (i : Nat) : Prop := mTk μ ν X ∧ mLg ν ∧ μ 133 7 = nI i ∧ μ 133 8 = nI 0 ∧ i ≤ tN X
theorem tN_1k {X : tTp} (hX : tpOk X) : tN X ≤ 1000 := Nat.le_trans (tN_le X) hX.1
theorem mS_c {k : Nat} (h : k ≤ 4) : (mS k = 0 ↔ k = 0) ∧ (mS k = 1 ↔ k = 2) ∧ (mS k = 2 ↔ k = 3) ∧ (mS k = 3 ↔ k = 4) ∧ mS k ≤ 4 := by
  have : ∀ k, k ≤ 4 → (mS k = 0 ↔ k = 0) ∧ (mS k = 1 ↔ k = 2) ∧ (mS k = 2 ↔ k = 3) ∧ (mS k = 3 ↔ k = 4) ∧ mS k ≤ 4 := by decide
  exact this k h
theorem cw_eq {X : tTp} {i r : Nat} (hk : kd X i = 2) (hr : r < 22) : lN (cw (wd X i)) = lN (cw (lg r)) ↔ wd X i = lg r :=
  ⟨fun h => cw_inj (wd_wf hk) (lg_wf r hr) ((pk_lEQ (cw_63 _) (cw_63 _)).mp h), fun h => by rw [h]⟩
theorem pl_1k {X : tTp} (hX : tpOk X) (i : Nat) : pl X i ≤ 1000 := Nat.le_trans (pl_le X i) hX.1
theorem am_up_same {μ : am_M2} {i k : Nat} {v : Int32} (h : μ i k = v) : am_up μ i k v = μ := by
  funext a b
  by_cases z : a = i ∧ b = k
  · rw [z.1, z.2, am_up_eq, h]
  · exact am_up_ne (by omega)
/-- StoneSecretsModel.wrong(I)V -/
theorem m_wrong0 (d : Nat) (k : Nat) (n i : Nat) {X : tTp} {μ : am_M2} (ν : am_N2) (hX : tpOk X) (hP : mP μ ν X i) : am_run (d + 1) 193 [.ref 133, .int (nI k)] (am_hp n μ ν) = some (none, am_hp n (am_up μ 133 8 (nI (wr X i k))) ν) := by
  have hN := tN_1k hX
  obtain ⟨hT, hG, hA, hF, hi⟩ := hP
  obtain ⟨t1, t2, t3, t4, t5⟩ := hT i hi
  have hkc := mS_c (kd_le X i)
  have hk4 := kd_le X i
  have hpl := pl_1k hX i
  refine am_r193 (d := d + 0) (Nat.le_of_ble_eq_true rfl) [some (.ref 133), some (.int (nI k))] rfl ?_
  refine am_q_aload_n rfl rfl ?_
  refine am_q_gi rfl rfl rfl hF ?_
  refine am_q_zneN rfl (by omega) (fun c_4 => absurd c_4 (by omega)) (fun c_4 => ?_)
  refine am_q_aload_n rfl rfl ?_
  refine am_q_iload_n rfl rfl ?_
  refine am_q_bipush (v := nI 16) rfl rfl ?_
  refine am_q_aload_n rfl rfl ?_
  refine am_q_gr rfl rfl rfl ?_
  refine am_q_aload_n rfl rfl ?_
  refine am_q_gi rfl rfl rfl hA ?_
  refine am_q_iald rfl rfl (am_ix_nI (show i < 1002 by omega) (by decide)) t2 ?_
  refine am_q_imul rfl (pk_mul _ _) ?_
  refine am_q_iadd rfl (nI_add _ _) ?_
  refine am_q_pi rfl rfl rfl (Or.inl rfl) ?_
  refine am_q_return rfl rfl ?_
  rfl

/-- StoneSecretsModel.wrong(I)V -/
theorem m_wrong1 (d : Nat) (k : Nat) (n c : Nat) {μ : am_M2} (ν : am_N2) (hc : 0 < c) (hc2 : c < 2 ^ 30) (hF : μ 133 8 = nI c) : am_run (d + 1) 193 [.ref 133, .int (nI k)] (am_hp n μ ν) = some (none, am_hp n μ ν) := by
  refine am_r193 (d := d + 0) (Nat.le_of_ble_eq_true rfl) [some (.ref 133), some (.int (nI k))] rfl ?_
  refine am_q_aload_n rfl rfl ?_
  refine am_q_gi rfl rfl rfl hF ?_
  refine am_q_zneN rfl (by omega) (fun c_4 => ?_) (fun c_4 => absurd c_4 (by omega))
  refine am_q_return rfl rfl ?_
  rfl

/-- StoneSecretsModel.isSign(I)Z -/
theorem m_isSign0 (d : Nat) (c : Nat) (hcc : c < 128) (n i : Nat) {X : tTp} {μ : am_M2} (ν : am_N2) (hX : tpOk X) (hP : mP μ ν X i) : am_run (d + 1) 210 [.ref 133, .int (nI c)] (am_hp n μ ν) = some (some (.int (sB (isSg X i c))), am_hp n μ ν) := by
  have hN := tN_1k hX
  obtain ⟨hT, hG, hA, hF, hi⟩ := hP
  obtain ⟨t1, t2, t3, t4, t5⟩ := hT i hi
  have hkc := mS_c (kd_le X i)
  have hk4 := kd_le X i
  have hpl := pl_1k hX i
  have hx : kd X i = 4 → X.1 (pl X i) < 128 := fun z => tp_128 hX (kd_sg z).1
  refine am_r210 (d := d + 0) (Nat.le_of_ble_eq_true rfl) [some (.ref 133), some (.int (nI c))] rfl ?_
  refine am_q_aload_n rfl rfl ?_
  refine am_q_gi rfl rfl rfl hF ?_
  refine am_q_zneN rfl (by omega) (fun c_4 => absurd c_4 (by omega)) (fun c_4 => ?_)
  refine am_q_aload_n rfl rfl ?_
  refine am_q_gr rfl rfl rfl ?_
  refine am_q_aload_n rfl rfl ?_
  refine am_q_gi rfl rfl rfl hA ?_
  refine am_q_iald rfl rfl (am_ix_nI (show i < 1002 by omega) (by decide)) t1 ?_
  refine am_q_iconst (v := nI 3) rfl rfl ?_
  refine am_q_ineN rfl (by omega) (by omega) (fun c_17 => ?_) (fun c_17 => ?_)
  · have hk : ¬ kd X i = 4 := fun z => c_17 (hkc.2.2.2.1.mpr z)
    refine am_q_iconst (v := nI 0) rfl rfl ?_
    refine am_q_ireturn rfl rfl rfl ?_
    unfold isSg
    first
    | (rw [decide_eq_false hk, Bool.false_and]; rfl)
    | (rw [decide_eq_true hk, decide_eq_true ((pk_lEQ (by omega) (by omega)).mp (lg0.mp c_32))]; rfl)
    | (rw [decide_eq_true hk, decide_eq_false (fun z => c_32 (lg0.mpr (by rw [z])))]; rfl)
  · have hk : kd X i = 4 := hkc.2.2.2.1.mp c_17
    have hx4 := hx hk
    refine am_q_aload_n rfl rfl ?_
    refine am_q_gr rfl rfl rfl ?_
    refine am_q_aload_n rfl rfl ?_
    refine am_q_gi rfl rfl rfl hA ?_
    refine am_q_lald rfl rfl (am_ix_nI (show i < 1002 by omega) (by decide)) (t5 hk) ?_
    refine am_q_iload_n rfl rfl ?_
    refine am_q_i2l rfl (nI_l (by omega)) ?_
    refine am_q_lcmp rfl rfl ?_
    refine am_q_if_ne rfl (fun c_32 => ?_) (fun c_32 => ?_)
    · refine am_q_iconst (v := nI 0) rfl rfl ?_
      refine am_q_ireturn rfl rfl rfl ?_
      unfold isSg
      first
      | (rw [decide_eq_false hk, Bool.false_and]; rfl)
      | (rw [decide_eq_true hk, decide_eq_true ((pk_lEQ (by omega) (by omega)).mp (lg0.mp c_32))]; rfl)
      | (rw [decide_eq_true hk, decide_eq_false (fun z => c_32 (lg0.mpr (by rw [z])))]; rfl)
    · refine am_q_iconst (v := nI 1) rfl rfl ?_
      refine am_q_goto rfl ?_
      refine am_q_ireturn rfl rfl rfl ?_
      unfold isSg
      first
      | (rw [decide_eq_false hk, Bool.false_and]; rfl)
      | (rw [decide_eq_true hk, decide_eq_true ((pk_lEQ (by omega) (by omega)).mp (lg0.mp c_32))]; rfl)
      | (rw [decide_eq_true hk, decide_eq_false (fun z => c_32 (lg0.mpr (by rw [z])))]; rfl)

/-- StoneSecretsModel.isSign(I)Z -/
theorem m_isSign1 (d : Nat) (x : Nat) (n c : Nat) {μ : am_M2} (ν : am_N2) (hc : 0 < c) (hc2 : c < 2 ^ 30) (hF : μ 133 8 = nI c) : am_run (d + 1) 210 [.ref 133, .int (nI x)] (am_hp n μ ν) = some (some (.int (sB false)), am_hp n μ ν) := by
  refine am_r210 (d := d + 0) (Nat.le_of_ble_eq_true rfl) [some (.ref 133), some (.int (nI x))] rfl ?_
  refine am_q_aload_n rfl rfl ?_
  refine am_q_gi rfl rfl rfl hF ?_
  refine am_q_zneN rfl (by omega) (fun c_4 => ?_) (fun c_4 => absurd c_4 (by omega))
  refine am_q_iconst (v := nI 0) rfl rfl ?_
  refine am_q_ireturn rfl rfl rfl ?_
  rfl

/-- StoneSecretsModel.isWord(I)Z -/
theorem m_isWord0 (d : Nat) (r : Nat) (hr : r < 22) (n i : Nat) {X : tTp} {μ : am_M2} (ν : am_N2) (hX : tpOk X) (hP : mP μ ν X i) : am_run (d + 1) 191 [.ref 133, .int (nI r)] (am_hp n μ ν) = some (some (.int (sB (isWd X i r))), am_hp n μ ν) := by
  have hN := tN_1k hX
  obtain ⟨hT, hG, hA, hF, hi⟩ := hP
  obtain ⟨t1, t2, t3, t4, t5⟩ := hT i hi
  have hkc := mS_c (kd_le X i)
  have hk4 := kd_le X i
  have hpl := pl_1k hX i
  refine am_r191 (d := d + 0) (Nat.le_of_ble_eq_true rfl) [some (.ref 133), some (.int (nI r))] rfl ?_
  refine am_q_aload_n rfl rfl ?_
  refine am_q_gi rfl rfl rfl hF ?_
  refine am_q_zneN rfl (by omega) (fun c_4 => absurd c_4 (by omega)) (fun c_4 => ?_)
  refine am_q_aload_n rfl rfl ?_
  refine am_q_gr rfl rfl rfl ?_
  refine am_q_aload_n rfl rfl ?_
  refine am_q_gi rfl rfl rfl hA ?_
  refine am_q_iald rfl rfl (am_ix_nI (show i < 1002 by omega) (by decide)) t1 ?_
  refine am_q_iconst (v := nI 1) rfl rfl ?_
  refine am_q_ineN rfl (by omega) (by omega) (fun c_17 => ?_) (fun c_17 => ?_)
  · have hk : ¬ kd X i = 2 := fun z => c_17 (hkc.2.1.mpr z)
    refine am_q_iconst (v := nI 0) rfl rfl ?_
    refine am_q_ireturn rfl rfl rfl ?_
    unfold isWd
    first
    | (rw [decide_eq_false hk, Bool.false_and]; rfl)
    | (rw [decide_eq_true hk, decide_eq_true ((cw_eq hk hr).mp (lg0.mp c_36))]; rfl)
    | (rw [decide_eq_true hk, decide_eq_false (fun z => c_36 (lg0.mpr ((cw_eq hk hr).mpr z)))]; rfl)
  · have hk : kd X i = 2 := hkc.2.1.mp c_17
    refine am_q_aload_n rfl rfl ?_
    refine am_q_gr rfl rfl rfl ?_
    refine am_q_aload_n rfl rfl ?_
    refine am_q_gi rfl rfl rfl hA ?_
    refine am_q_lald rfl rfl (am_ix_nI (show i < 1002 by omega) (by decide)) (t3 hk) ?_
    refine am_q_aload_n rfl rfl ?_
    refine am_q_gr rfl rfl rfl ?_
    refine am_q_iload_n rfl rfl ?_
    refine am_q_lald rfl rfl (am_ix_nI (show r < 22 by omega) (by decide)) (hG r hr) ?_
    refine am_q_lcmp rfl rfl ?_
    refine am_q_if_ne rfl (fun c_36 => ?_) (fun c_36 => ?_)
    · refine am_q_iconst (v := nI 0) rfl rfl ?_
      refine am_q_ireturn rfl rfl rfl ?_
      unfold isWd
      first
      | (rw [decide_eq_false hk, Bool.false_and]; rfl)
      | (rw [decide_eq_true hk, decide_eq_true ((cw_eq hk hr).mp (lg0.mp c_36))]; rfl)
      | (rw [decide_eq_true hk, decide_eq_false (fun z => c_36 (lg0.mpr ((cw_eq hk hr).mpr z)))]; rfl)
    · refine am_q_iconst (v := nI 1) rfl rfl ?_
      refine am_q_goto rfl ?_
      refine am_q_ireturn rfl rfl rfl ?_
      unfold isWd
      first
      | (rw [decide_eq_false hk, Bool.false_and]; rfl)
      | (rw [decide_eq_true hk, decide_eq_true ((cw_eq hk hr).mp (lg0.mp c_36))]; rfl)
      | (rw [decide_eq_true hk, decide_eq_false (fun z => c_36 (lg0.mpr ((cw_eq hk hr).mpr z)))]; rfl)

/-- StoneSecretsModel.isWord(I)Z -/
theorem m_isWord1 (d : Nat) (x : Nat) (n c : Nat) {μ : am_M2} (ν : am_N2) (hc : 0 < c) (hc2 : c < 2 ^ 30) (hF : μ 133 8 = nI c) : am_run (d + 1) 191 [.ref 133, .int (nI x)] (am_hp n μ ν) = some (some (.int (sB false)), am_hp n μ ν) := by
  refine am_r191 (d := d + 0) (Nat.le_of_ble_eq_true rfl) [some (.ref 133), some (.int (nI x))] rfl ?_
  refine am_q_aload_n rfl rfl ?_
  refine am_q_gi rfl rfl rfl hF ?_
  refine am_q_zneN rfl (by omega) (fun c_4 => ?_) (fun c_4 => absurd c_4 (by omega))
  refine am_q_iconst (v := nI 0) rfl rfl ?_
  refine am_q_ireturn rfl rfl rfl ?_
  rfl

/-- StoneSecretsModel.hasSign(I)Z -/
theorem m_hasSign0 (d : Nat) (c : Nat) (hcc : c < 128) (n i : Nat) {X : tTp} {μ : am_M2} (ν : am_N2) (hX : tpOk X) (hP : mP μ ν X i) : am_run (d + 2) 212 [.ref 133, .int (nI c)] (am_hp n μ ν) = some (some (.int (sB (isSg X i c))), am_hp n (am_up μ 133 7 (nI (i + if isSg X i c = true then 1 else 0))) ν) := by
  refine am_r212 (d := d + 1) (Nat.le_of_ble_eq_true rfl) [some (.ref 133), some (.int (nI c)), none] rfl ?_
  refine am_q_aload_n rfl rfl ?_
  refine am_q_iload_n rfl rfl ?_
  refine am_q_call rfl rfl (m_isSign0 _ c hcc n i ν hX hP) rfl ?_
  refine am_q_istore_n [some _, some _, some _] rfl (Nat.le_of_ble_eq_true rfl) rfl ?_
  refine am_q_aload_n rfl rfl ?_
  refine am_q_dupr rfl ?_
  refine am_q_gi rfl rfl rfl hP.2.2.1 ?_
  refine am_q_iload_n rfl rfl ?_
  refine am_q_if_eqB rfl (fun c_12 => ?_) (fun c_12 => ?_)
  · refine am_q_iconst (v := nI 0) rfl rfl ?_
    refine am_q_iadd rfl (nI_add _ _) ?_
    refine am_q_pi rfl rfl rfl (Or.inl rfl) ?_
    refine am_q_iload_n rfl rfl ?_
    refine am_q_ireturn rfl rfl (sB_ok _) ?_
    first
    | (rw [if_pos c_12])
    | (rw [if_neg (fun z => by rw [z] at c_12; cases c_12)])
  · refine am_q_iconst (v := nI 1) rfl rfl ?_
    refine am_q_goto rfl ?_
    refine am_q_iadd rfl (nI_add _ _) ?_
    refine am_q_pi rfl rfl rfl (Or.inl rfl) ?_
    refine am_q_iload_n rfl rfl ?_
    refine am_q_ireturn rfl rfl (sB_ok _) ?_
    first
    | (rw [if_pos c_12])
    | (rw [if_neg (fun z => by rw [z] at c_12; cases c_12)])

/-- StoneSecretsModel.hasSign(I)Z -/
theorem m_hasSign1 (d : Nat) (x i : Nat) (n c : Nat) {μ : am_M2} (ν : am_N2) (hc : 0 < c) (hc2 : c < 2 ^ 30) (hF : μ 133 8 = nI c) (hA : μ 133 7 = nI i) : am_run (d + 2) 212 [.ref 133, .int (nI x)] (am_hp n μ ν) = some (some (.int (sB false)), am_hp n μ ν) := by
  refine am_r212 (d := d + 1) (Nat.le_of_ble_eq_true rfl) [some (.ref 133), some (.int (nI x)), none] rfl ?_
  refine am_q_aload_n rfl rfl ?_
  refine am_q_iload_n rfl rfl ?_
  refine am_q_call rfl rfl (m_isSign1 _ x n c ν hc hc2 hF) rfl ?_
  refine am_q_istore_n [some _, some _, some _] rfl (Nat.le_of_ble_eq_true rfl) rfl ?_
  refine am_q_aload_n rfl rfl ?_
  refine am_q_dupr rfl ?_
  refine am_q_gi rfl rfl rfl hA ?_
  refine am_q_iload_n rfl rfl ?_
  refine am_q_if_eqB rfl (fun c_12 => ?_) (fun c_12 => by simp at c_12)
  refine am_q_iconst (v := nI 0) rfl rfl ?_
  refine am_q_iadd rfl (nI_add _ _) ?_
  refine am_q_pi rfl rfl rfl (Or.inl rfl) ?_
  refine am_q_iload_n rfl rfl ?_
  refine am_q_ireturn rfl rfl (sB_ok _) ?_
  rw [am_up_same (v := nI (i + 0)) hA]

/-- StoneSecretsModel.hasWord(I)Z -/
theorem m_hasWord0 (d : Nat) (c : Nat) (hcc : c < 22) (n i : Nat) {X : tTp} {μ : am_M2} (ν : am_N2) (hX : tpOk X) (hP : mP μ ν X i) : am_run (d + 2) 200 [.ref 133, .int (nI c)] (am_hp n μ ν) = some (some (.int (sB (isWd X i c))), am_hp n (am_up μ 133 7 (nI (i + if isWd X i c = true then 1 else 0))) ν) := by
  refine am_r200 (d := d + 1) (Nat.le_of_ble_eq_true rfl) [some (.ref 133), some (.int (nI c)), none] rfl ?_
  refine am_q_aload_n rfl rfl ?_
  refine am_q_iload_n rfl rfl ?_
  refine am_q_call rfl rfl (m_isWord0 _ c hcc n i ν hX hP) rfl ?_
  refine am_q_istore_n [some _, some _, some _] rfl (Nat.le_of_ble_eq_true rfl) rfl ?_
  refine am_q_aload_n rfl rfl ?_
  refine am_q_dupr rfl ?_
  refine am_q_gi rfl rfl rfl hP.2.2.1 ?_
  refine am_q_iload_n rfl rfl ?_
  refine am_q_if_eqB rfl (fun c_12 => ?_) (fun c_12 => ?_)
  · refine am_q_iconst (v := nI 0) rfl rfl ?_
    refine am_q_iadd rfl (nI_add _ _) ?_
    refine am_q_pi rfl rfl rfl (Or.inl rfl) ?_
    refine am_q_iload_n rfl rfl ?_
    refine am_q_ireturn rfl rfl (sB_ok _) ?_
    first
    | (rw [if_pos c_12])
    | (rw [if_neg (fun z => by rw [z] at c_12; cases c_12)])
  · refine am_q_iconst (v := nI 1) rfl rfl ?_
    refine am_q_goto rfl ?_
    refine am_q_iadd rfl (nI_add _ _) ?_
    refine am_q_pi rfl rfl rfl (Or.inl rfl) ?_
    refine am_q_iload_n rfl rfl ?_
    refine am_q_ireturn rfl rfl (sB_ok _) ?_
    first
    | (rw [if_pos c_12])
    | (rw [if_neg (fun z => by rw [z] at c_12; cases c_12)])

/-- StoneSecretsModel.hasWord(I)Z -/
theorem m_hasWord1 (d : Nat) (x i : Nat) (n c : Nat) {μ : am_M2} (ν : am_N2) (hc : 0 < c) (hc2 : c < 2 ^ 30) (hF : μ 133 8 = nI c) (hA : μ 133 7 = nI i) : am_run (d + 2) 200 [.ref 133, .int (nI x)] (am_hp n μ ν) = some (some (.int (sB false)), am_hp n μ ν) := by
  refine am_r200 (d := d + 1) (Nat.le_of_ble_eq_true rfl) [some (.ref 133), some (.int (nI x)), none] rfl ?_
  refine am_q_aload_n rfl rfl ?_
  refine am_q_iload_n rfl rfl ?_
  refine am_q_call rfl rfl (m_isWord1 _ x n c ν hc hc2 hF) rfl ?_
  refine am_q_istore_n [some _, some _, some _] rfl (Nat.le_of_ble_eq_true rfl) rfl ?_
  refine am_q_aload_n rfl rfl ?_
  refine am_q_dupr rfl ?_
  refine am_q_gi rfl rfl rfl hA ?_
  refine am_q_iload_n rfl rfl ?_
  refine am_q_if_eqB rfl (fun c_12 => ?_) (fun c_12 => by simp at c_12)
  refine am_q_iconst (v := nI 0) rfl rfl ?_
  refine am_q_iadd rfl (nI_add _ _) ?_
  refine am_q_pi rfl rfl rfl (Or.inl rfl) ?_
  refine am_q_iload_n rfl rfl ?_
  refine am_q_ireturn rfl rfl (sB_ok _) ?_
  rw [am_up_same (v := nI (i + 0)) hA]

/-- StoneSecretsModel.takeSign(I)V -/
theorem m_takeSign0 (d : Nat) (c : Nat) (hcc : c < 128) (n i : Nat) {X : tTp} {μ : am_M2} (ν : am_N2) (hX : tpOk X) (hP : mP μ ν X i) : ∃ (μ' : am_M2), am_run (d + 2) 213 [.ref 133, .int (nI c)] (am_hp n μ ν) = some (none, am_hp n μ' ν) ∧ μ' = (if isSg X i c = true then am_up μ 133 7 (nI (i + 1)) else am_up μ 133 8 (nI (wr X i 1))) := by
  have key : ∃ r, am_run (d + 2) 213 [.ref 133, .int (nI c)] (am_hp n μ ν) = some r ∧ ∃ (μ' : am_M2), r = (none, am_hp n μ' ν) ∧ μ' = (if isSg X i c = true then am_up μ 133 7 (nI (i + 1)) else am_up μ 133 8 (nI (wr X i 1))) := am_run_wE (k := 213) (d := d + 1) rfl rfl (Nat.le_of_ble_eq_true rfl) [some (.ref 133), some (.int (nI c))] rfl (by
    refine am_q_aload_n rfl rfl ?_
    refine am_q_iload_n rfl rfl ?_
    refine am_q_call rfl rfl (m_isSign0 _ c hcc n i ν hX hP) rfl ?_
    refine am_q_if_eqB rfl (fun c_5 => ?_) (fun c_5 => ?_)
    · refine am_q_aload_n rfl rfl ?_
      refine am_q_iconst (v := nI 1) rfl rfl ?_
      refine am_q_call rfl rfl (m_wrong0 _ 1 n i ν hX hP) rfl ?_
      refine am_q_return rfl rfl ?_
      first
      | exact ⟨_, rfl, (if_pos c_5).symm⟩
      | exact ⟨_, rfl, (if_neg (fun z => by rw [z] at c_5; cases c_5)).symm⟩
    · refine am_q_aload_n rfl rfl ?_
      refine am_q_dupr rfl ?_
      refine am_q_gi rfl rfl rfl hP.2.2.1 ?_
      refine am_q_iconst (v := nI 1) rfl rfl ?_
      refine am_q_iadd rfl (nI_add _ _) ?_
      refine am_q_pi rfl rfl rfl (Or.inl rfl) ?_
      refine am_q_goto rfl ?_
      refine am_q_return rfl rfl ?_
      first
      | exact ⟨_, rfl, (if_pos c_5).symm⟩
      | exact ⟨_, rfl, (if_neg (fun z => by rw [z] at c_5; cases c_5)).symm⟩)
  obtain ⟨r, h1, μ', h2, h3⟩ := key
  exact ⟨μ', by rw [h1, h2], h3⟩

/-- StoneSecretsModel.takeSign(I)V -/
theorem m_takeSign1 (d : Nat) (x : Nat) (n c : Nat) {μ : am_M2} (ν : am_N2) (hc : 0 < c) (hc2 : c < 2 ^ 30) (hF : μ 133 8 = nI c) : am_run (d + 2) 213 [.ref 133, .int (nI x)] (am_hp n μ ν) = some (none, am_hp n μ ν) := by
  refine am_r213 (d := d + 1) (Nat.le_of_ble_eq_true rfl) [some (.ref 133), some (.int (nI x))] rfl ?_
  refine am_q_aload_n rfl rfl ?_
  refine am_q_iload_n rfl rfl ?_
  refine am_q_call rfl rfl (m_isSign1 _ x n c ν hc hc2 hF) rfl ?_
  refine am_q_if_eqB rfl (fun c_5 => ?_) (fun c_5 => by simp at c_5)
  refine am_q_aload_n rfl rfl ?_
  refine am_q_iconst (v := nI 1) rfl rfl ?_
  refine am_q_call rfl rfl (m_wrong1 _ 1 n c ν hc hc2 hF) rfl ?_
  refine am_q_return rfl rfl ?_
  rfl

/-- StoneSecretsModel.takeWord(I)V -/
theorem m_takeWord0 (d : Nat) (c : Nat) (hcc : c < 22) (n i : Nat) {X : tTp} {μ : am_M2} (ν : am_N2) (hX : tpOk X) (hP : mP μ ν X i) : ∃ (μ' : am_M2), am_run (d + 3) 199 [.ref 133, .int (nI c)] (am_hp n μ ν) = some (none, am_hp n μ' ν) ∧ μ' = (if isWd X i c = true then am_up μ 133 7 (nI (i + 1)) else am_up μ 133 8 (nI (wr X i 1))) := by
  have key : ∃ r, am_run (d + 3) 199 [.ref 133, .int (nI c)] (am_hp n μ ν) = some r ∧ ∃ (μ' : am_M2), r = (none, am_hp n μ' ν) ∧ μ' = (if isWd X i c = true then am_up μ 133 7 (nI (i + 1)) else am_up μ 133 8 (nI (wr X i 1))) := am_run_wE (k := 199) (d := d + 2) rfl rfl (Nat.le_of_ble_eq_true rfl) [some (.ref 133), some (.int (nI c))] rfl (by
    refine am_q_aload_n rfl rfl ?_
    refine am_q_iload_n rfl rfl ?_
    refine am_q_call rfl rfl (m_hasWord0 _ c hcc n i ν hX hP) rfl ?_
    refine am_q_if_neB rfl (fun c_5 => ?_) (fun c_5 => ?_)
    · rw [if_pos c_5]
      refine am_q_return rfl rfl ?_
      first
      | exact ⟨_, rfl, (if_pos c_5).symm⟩
      | exact ⟨_, rfl, (if_neg (fun z => by rw [z] at c_5; cases c_5)).symm⟩
    · rw [if_neg (fun z => by rw [z] at c_5; cases c_5), am_up_same (v := nI (i + 0)) hP.2.2.1]
      refine am_q_aload_n rfl rfl ?_
      refine am_q_iconst (v := nI 1) rfl rfl ?_
      refine am_q_call rfl rfl (m_wrong0 _ 1 n i ν hX hP) rfl ?_
      refine am_q_return rfl rfl ?_
      first
      | exact ⟨_, rfl, (if_pos c_5).symm⟩
      | exact ⟨_, rfl, (if_neg (fun z => by rw [z] at c_5; cases c_5)).symm⟩)
  obtain ⟨r, h1, μ', h2, h3⟩ := key
  exact ⟨μ', by rw [h1, h2], h3⟩

/-- StoneSecretsModel.takeWord(I)V -/
theorem m_takeWord1 (d : Nat) (x i : Nat) (n c : Nat) {μ : am_M2} (ν : am_N2) (hc : 0 < c) (hc2 : c < 2 ^ 30) (hF : μ 133 8 = nI c) (hA : μ 133 7 = nI i) : am_run (d + 3) 199 [.ref 133, .int (nI x)] (am_hp n μ ν) = some (none, am_hp n μ ν) := by
  refine am_r199 (d := d + 2) (Nat.le_of_ble_eq_true rfl) [some (.ref 133), some (.int (nI x))] rfl ?_
  refine am_q_aload_n rfl rfl ?_
  refine am_q_iload_n rfl rfl ?_
  refine am_q_call rfl rfl (m_hasWord1 _ x i n c ν hc hc2 hF hA) rfl ?_
  refine am_q_if_neB rfl (fun c_5 => by simp at c_5) (fun c_5 => ?_)
  refine am_q_aload_n rfl rfl ?_
  refine am_q_iconst (v := nI 1) rfl rfl ?_
  refine am_q_call rfl rfl (m_wrong1 _ 1 n c ν hc hc2 hF) rfl ?_
  refine am_q_return rfl rfl ?_
  rfl
