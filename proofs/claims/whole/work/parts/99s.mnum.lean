/-- StoneSecretsModel.takeOne(II)I -/
theorem m_one_a (d : Nat) (a M : Nat) (hM : a + M ≤ 22) (n i : Nat) {X : tTp} {μ : am_M2} (ν : am_N2) (hX : tpOk X) (hP : mP μ ν X i) (hw : whF X i a M = none) : am_run (d + 3) 197 [.ref 133, .int (nI a), .int (nI M)] (am_hp n μ ν) = some (some (.int (nI 0)), am_hp n (am_up μ 133 8 (nI (wr X i 1))) ν) := by
  have hP0 := hP
  have hN := tN_1k hX
  obtain ⟨hT, hG, hA, hF, hi⟩ := hP
  obtain ⟨t1, t2, t3, t4, t5⟩ := hT i hi
  have hkc := mS_c (kd_le X i)
  have hk4 := kd_le X i
  have hpl := pl_1k hX i
  obtain ⟨w0, w1⟩ := wr_b hX i (k := 1) (by decide) (by decide)
  refine am_r197 (d := d + 2) (Nat.le_of_ble_eq_true rfl) [some (.ref 133), some (.int (nI a)), some (.int (nI M)), none] rfl ?_
  refine am_q_aload_n rfl rfl ?_
  refine am_q_gi rfl rfl rfl hF ?_
  refine am_q_zleN rfl (by omega) (fun c_4 => ?_) (fun c_4 => absurd c_4 (by omega))
  refine am_q_aload_n rfl rfl ?_
  refine am_q_iload_n rfl rfl ?_
  refine am_q_iload_n rfl rfl ?_
  refine am_q_call rfl rfl ((m_wordHere0 _ a M hM n i ν hX hP0).trans (show some (some (Value.int (oI (whF X i a M))), am_hp n μ ν) = some (some (Value.int (-1)), am_hp n μ ν) by rw [hw]; first | done | rfl)) rfl ?_
  refine am_q_istore_n [some _, some _, some _, some _] rfl (Nat.le_of_ble_eq_true rfl) rfl ?_
  refine am_q_aload_n rfl rfl ?_
  refine am_q_gi rfl rfl rfl hF ?_
  refine am_q_zneN rfl (by omega) (fun c_22 => absurd c_22 (by omega)) (fun c_22 => ?_)
  refine am_q_iload_n rfl rfl ?_
  refine am_q_if_ge rfl (fun c_26 => absurd c_26 (by decide)) (fun c_26 => ?_)
  refine am_q_aload_n rfl rfl ?_
  refine am_q_iconst (v := nI 1) rfl rfl ?_
  refine am_q_call rfl rfl (m_wrong0 _ 1 n i ν hX hP0) rfl ?_
  refine am_q_aload_n rfl rfl ?_
  refine am_q_dupr rfl ?_
  refine am_q_gi rfl rfl rfl ((am_up_ne (by omega)).trans hA) ?_
  refine am_q_aload_n rfl rfl ?_
  refine am_q_gi rfl rfl rfl am_up_eq ?_
  refine am_q_zleN rfl (by omega) (fun c_43 => absurd c_43 (by omega)) (fun c_43 => ?_)
  refine am_q_iconst (v := nI 0) rfl rfl ?_
  refine am_q_goto rfl ?_
  refine am_q_iadd rfl (nI_add _ _) ?_
  refine am_q_pi rfl rfl rfl (Or.inl rfl) ?_
  refine am_q_aload_n rfl rfl ?_
  refine am_q_gi rfl rfl rfl ((am_up_ne (by omega)).trans am_up_eq) ?_
  refine am_q_zleN rfl (by omega) (fun c_59 => absurd c_59 (by omega)) (fun c_59 => ?_)
  refine am_q_iconst (v := nI 0) rfl rfl ?_
  refine am_q_goto rfl ?_
  refine am_q_ireturn rfl rfl rfl ?_
  exact congrArg (fun z => (some (Value.int (nI 0)), am_hp n z ν)) (am_up_same (v := nI (i + 0)) ((am_up_ne (by omega)).trans hA))

/-- StoneSecretsModel.takeOne(II)I -/
theorem m_one_b (d : Nat) (a M : Nat) (hM : a + M ≤ 22) (n i : Nat) {X : tTp} {μ : am_M2} (ν : am_N2) (hX : tpOk X) (hP : mP μ ν X i) (j : Nat) (hw : whF X i a M = some j) : am_run (d + 3) 197 [.ref 133, .int (nI a), .int (nI M)] (am_hp n μ ν) = some (some (.int (nI j)), am_hp n (am_up μ 133 7 (nI (i + 1))) ν) := by
  have hP0 := hP
  have hN := tN_1k hX
  obtain ⟨hT, hG, hA, hF, hi⟩ := hP
  obtain ⟨t1, t2, t3, t4, t5⟩ := hT i hi
  have hkc := mS_c (kd_le X i)
  have hk4 := kd_le X i
  have hpl := pl_1k hX i
  have hjM := (whF_lt M j hw).1
  refine am_r197 (d := d + 2) (Nat.le_of_ble_eq_true rfl) [some (.ref 133), some (.int (nI a)), some (.int (nI M)), none] rfl ?_
  refine am_q_aload_n rfl rfl ?_
  refine am_q_gi rfl rfl rfl hF ?_
  refine am_q_zleN rfl (by omega) (fun c_4 => ?_) (fun c_4 => absurd c_4 (by omega))
  refine am_q_aload_n rfl rfl ?_
  refine am_q_iload_n rfl rfl ?_
  refine am_q_iload_n rfl rfl ?_
  refine am_q_call rfl rfl ((m_wordHere0 _ a M hM n i ν hX hP0).trans (show some (some (Value.int (oI (whF X i a M))), am_hp n μ ν) = some (some (Value.int (nI j)), am_hp n μ ν) by rw [hw]; first | done | rfl)) rfl ?_
  refine am_q_istore_n [some _, some _, some _, some _] rfl (Nat.le_of_ble_eq_true rfl) rfl ?_
  refine am_q_aload_n rfl rfl ?_
  refine am_q_gi rfl rfl rfl hF ?_
  refine am_q_zneN rfl (by omega) (fun c_22 => absurd c_22 (by omega)) (fun c_22 => ?_)
  refine am_q_iload_n rfl rfl ?_
  refine am_q_zgeN rfl (by omega) (fun c_26 => ?_) (fun c_26 => absurd c_26 (by omega))
  refine am_q_aload_n rfl rfl ?_
  refine am_q_dupr rfl ?_
  refine am_q_gi rfl rfl rfl hA ?_
  refine am_q_aload_n rfl rfl ?_
  refine am_q_gi rfl rfl rfl hF ?_
  refine am_q_zleN rfl (by omega) (fun c_43 => ?_) (fun c_43 => absurd c_43 (by omega))
  refine am_q_iconst (v := nI 1) rfl rfl ?_
  refine am_q_iadd rfl (nI_add _ _) ?_
  refine am_q_pi rfl rfl rfl (Or.inl rfl) ?_
  refine am_q_aload_n rfl rfl ?_
  refine am_q_gi rfl rfl rfl ((am_up_ne (by omega)).trans hF) ?_
  refine am_q_zleN rfl (by omega) (fun c_59 => ?_) (fun c_59 => absurd c_59 (by omega))
  refine am_q_iload_n rfl rfl ?_
  refine am_q_ireturn rfl rfl rfl ?_
  rfl

def oneM (X : tTp) (i a M : Nat) : Nat ⊕ Nat := match whF X i a M with
  | none => .inl (wr X i 1)
  | some j => .inr j
theorem m_takeOne0 (d a M : Nat) (hM : a + M ≤ 22) (n i : Nat) {X : tTp} {μ : am_M2} (ν : am_N2) (hX : tpOk X) (hP : mP μ ν X i) : am_run (d + 3) 197 [.ref 133, .int (nI a), .int (nI M)] (am_hp n μ ν) = some (some (.int (nI (mRv (oneM X i a M)))), am_hp n (mRs μ i (oneM X i a M)) ν) := by
  unfold oneM
  cases hw : whF X i a M with
  | none => exact m_one_a d a M hM n i ν hX hP hw
  | some j => exact m_one_b d a M hM n i ν hX hP j hw
/-- StoneSecretsModel.takeOne(II)I -/
theorem m_takeOne1 (d : Nat) (x y : Int32) (i : Nat) (n c : Nat) {μ : am_M2} (ν : am_N2) (hc : 0 < c) (hc2 : c < 2 ^ 30) (hF : μ 133 8 = nI c) (hA : μ 133 7 = nI i) : am_run (d + 3) 197 [.ref 133, .int x, .int y] (am_hp n μ ν) = some (some (.int (nI 0)), am_hp n μ ν) := by
  refine am_r197 (d := d + 2) (Nat.le_of_ble_eq_true rfl) [some (.ref 133), some (.int x), some (.int y), none] rfl ?_
  refine am_q_aload_n rfl rfl ?_
  refine am_q_gi rfl rfl rfl hF ?_
  refine am_q_zleN rfl (by omega) (fun c_4 => absurd c_4 (by omega)) (fun c_4 => ?_)
  refine am_q_iconst (v := -1) rfl rfl ?_
  refine am_q_goto rfl ?_
  refine am_q_istore_n [some _, some _, some _, some _] rfl (Nat.le_of_ble_eq_true rfl) rfl ?_
  refine am_q_aload_n rfl rfl ?_
  refine am_q_gi rfl rfl rfl hF ?_
  refine am_q_zneN rfl (by omega) (fun c_22 => ?_) (fun c_22 => absurd c_22 (by omega))
  refine am_q_aload_n rfl rfl ?_
  refine am_q_dupr rfl ?_
  refine am_q_gi rfl rfl rfl hA ?_
  refine am_q_aload_n rfl rfl ?_
  refine am_q_gi rfl rfl rfl hF ?_
  refine am_q_zleN rfl (by omega) (fun c_43 => absurd c_43 (by omega)) (fun c_43 => ?_)
  refine am_q_iconst (v := nI 0) rfl rfl ?_
  refine am_q_goto rfl ?_
  refine am_q_iadd rfl (nI_add _ _) ?_
  refine am_q_pi rfl rfl rfl (Or.inl rfl) ?_
  refine am_q_aload_n rfl rfl ?_
  refine am_q_gi rfl rfl rfl ((am_up_ne (by omega)).trans hF) ?_
  refine am_q_zleN rfl (by omega) (fun c_59 => absurd c_59 (by omega)) (fun c_59 => ?_)
  refine am_q_iconst (v := nI 0) rfl rfl ?_
  refine am_q_goto rfl ?_
  refine am_q_ireturn rfl rfl rfl ?_
  rw [am_up_same (v := nI (i + 0)) hA]

/-- StoneSecretsModel.takeNumber(II)I -/
theorem m_num_a (d : Nat) (lo : Nat) (hlo : lo < 2 ^ 20) (hi : Int32) (n i : Nat) {X : tTp} {μ : am_M2} (ν : am_N2) (hX : tpOk X) (hP : mP μ ν X i) (hk : ¬ kd X i = 3) : am_run (d + 2) 201 [.ref 133, .int (nI lo), .int hi] (am_hp n μ ν) = some (some (.int (nI 0)), am_hp n (am_up μ 133 8 (nI (wr X i 1))) ν) := by
  have hP0 := hP
  have hN := tN_1k hX
  obtain ⟨hT, hG, hA, hF, hit⟩ := hP
  obtain ⟨t1, t2, t3, t4, t5⟩ := hT i hit
  have hkc := mS_c (kd_le X i)
  have hk4 := kd_le X i
  have hpl := pl_1k hX i
  obtain ⟨w0, w1⟩ := wr_b hX i (k := 1) (by decide) (by decide)
  refine am_r201 (d := d + 1) (Nat.le_of_ble_eq_true rfl) [some (.ref 133), some (.int (nI lo)), some (.int hi)] rfl ?_
  refine am_q_aload_n rfl rfl ?_
  refine am_q_gi rfl rfl rfl hF ?_
  refine am_q_zneN rfl (by omega) (fun c_4 => absurd c_4 (by omega)) (fun c_4 => ?_)
  refine am_q_aload_n rfl rfl ?_
  refine am_q_gr rfl rfl rfl ?_
  refine am_q_aload_n rfl rfl ?_
  refine am_q_gi rfl rfl rfl hA ?_
  refine am_q_iald rfl rfl (am_ix_nI (show i < 1002 by omega) (by decide)) t1 ?_
  refine am_q_iconst (v := nI 2) rfl rfl ?_
  refine am_q_ieqN rfl (by omega) (by omega) (fun c_17 => absurd (hkc.2.2.1.mp c_17) hk) (fun c_17 => ?_)
  refine am_q_aload_n rfl rfl ?_
  refine am_q_iconst (v := nI 1) rfl rfl ?_
  refine am_q_call rfl rfl (m_wrong0 _ 1 n i ν hX hP0) rfl ?_
  refine am_q_goto rfl ?_
  refine am_q_aload_n rfl rfl ?_
  refine am_q_gi rfl rfl rfl am_up_eq ?_
  refine am_q_zleN rfl (by omega) (fun c_74 => absurd c_74 (by omega)) (fun c_74 => ?_)
  refine am_q_iconst (v := nI 0) rfl rfl ?_
  refine am_q_ireturn rfl rfl rfl ?_
  rfl

/-- StoneSecretsModel.takeNumber(II)I -/
theorem m_num_b (d : Nat) (lo : Nat) (hlo : lo < 2 ^ 20) (hi : Int32) (n i : Nat) {X : tTp} {μ : am_M2} (ν : am_N2) (hX : tpOk X) (hP : mP μ ν X i) (hk : kd X i = 3) (hb : nu X i < lo ∨ hi < nI (nu X i)) : am_run (d + 2) 201 [.ref 133, .int (nI lo), .int hi] (am_hp n μ ν) = some (some (.int (nI 0)), am_hp n (am_up μ 133 8 (nI (wr X i 4))) ν) := by
  have hP0 := hP
  have hN := tN_1k hX
  obtain ⟨hT, hG, hA, hF, hit⟩ := hP
  obtain ⟨t1, t2, t3, t4, t5⟩ := hT i hit
  have hkc := mS_c (kd_le X i)
  have hk4 := kd_le X i
  have hpl := pl_1k hX i
  obtain ⟨w0, w1⟩ := wr_b hX i (k := 4) (by decide) (by decide)
  have hv := kd_nu hk
  have hdead : ¬ lg_cmp (lN (nu X i)) ((nI lo).toInt64) < 0 → ¬ lg_cmp (lN (nu X i)) (hi.toInt64) ≤ 0 := fun z1 z2 => hb.elim (fun q => z1 ((tn_lo hv hlo).mpr q)) (fun q => (tn_hi hv).mp z2 q)
  refine am_r201 (d := d + 1) (Nat.le_of_ble_eq_true rfl) [some (.ref 133), some (.int (nI lo)), some (.int hi)] rfl ?_
  refine am_q_aload_n rfl rfl ?_
  refine am_q_gi rfl rfl rfl hF ?_
  refine am_q_zneN rfl (by omega) (fun c_4 => absurd c_4 (by omega)) (fun c_4 => ?_)
  refine am_q_aload_n rfl rfl ?_
  refine am_q_gr rfl rfl rfl ?_
  refine am_q_aload_n rfl rfl ?_
  refine am_q_gi rfl rfl rfl hA ?_
  refine am_q_iald rfl rfl (am_ix_nI (show i < 1002 by omega) (by decide)) t1 ?_
  refine am_q_iconst (v := nI 2) rfl rfl ?_
  refine am_q_ieqN rfl (by omega) (by omega) (fun c_17 => ?_) (fun c_17 => absurd (hkc.2.2.1.mpr hk) c_17)
  refine am_q_aload_n rfl rfl ?_
  refine am_q_gi rfl rfl rfl hF ?_
  refine am_q_zneN rfl (by omega) (fun c_32 => absurd c_32 (by omega)) (fun c_32 => ?_)
  refine am_q_aload_n rfl rfl ?_
  refine am_q_gr rfl rfl rfl ?_
  refine am_q_aload_n rfl rfl ?_
  refine am_q_gi rfl rfl rfl hA ?_
  refine am_q_lald rfl rfl (am_ix_nI (show i < 1002 by omega) (by decide)) (t4 hk) ?_
  refine am_q_iload_n rfl rfl ?_
  refine am_q_i2l rfl rfl ?_
  refine am_q_lcmp rfl rfl ?_
  refine am_q_if_lt rfl (fun c_47 => ?_) (fun c_47 => ?_)
  · refine am_q_aload_n rfl rfl ?_
    refine am_q_iconst (v := nI 4) rfl rfl ?_
    refine am_q_call rfl rfl (m_wrong0 _ 4 n i ν hX hP0) rfl ?_
    refine am_q_aload_n rfl rfl ?_
    refine am_q_gi rfl rfl rfl am_up_eq ?_
    refine am_q_zleN rfl (by omega) (fun c_74 => absurd c_74 (by omega)) (fun c_74 => ?_)
    refine am_q_iconst (v := nI 0) rfl rfl ?_
    refine am_q_ireturn rfl rfl rfl ?_
    rfl
  · refine am_q_aload_n rfl rfl ?_
    refine am_q_gr rfl rfl rfl ?_
    refine am_q_aload_n rfl rfl ?_
    refine am_q_gi rfl rfl rfl hA ?_
    refine am_q_lald rfl rfl (am_ix_nI (show i < 1002 by omega) (by decide)) (t4 hk) ?_
    refine am_q_iload_n rfl rfl ?_
    refine am_q_i2l rfl rfl ?_
    refine am_q_lcmp rfl rfl ?_
    refine am_q_if_le rfl (fun c_62 => absurd c_62 (hdead c_47)) (fun c_62 => ?_)
    refine am_q_aload_n rfl rfl ?_
    refine am_q_iconst (v := nI 4) rfl rfl ?_
    refine am_q_call rfl rfl (m_wrong0 _ 4 n i ν hX hP0) rfl ?_
    refine am_q_aload_n rfl rfl ?_
    refine am_q_gi rfl rfl rfl am_up_eq ?_
    refine am_q_zleN rfl (by omega) (fun c_74 => absurd c_74 (by omega)) (fun c_74 => ?_)
    refine am_q_iconst (v := nI 0) rfl rfl ?_
    refine am_q_ireturn rfl rfl rfl ?_
    rfl

/-- StoneSecretsModel.takeNumber(II)I -/
theorem m_num_c (d : Nat) (lo : Nat) (hlo : lo < 2 ^ 20) (hi : Int32) (n i : Nat) {X : tTp} {μ : am_M2} (ν : am_N2) (hX : tpOk X) (hP : mP μ ν X i) (hk : kd X i = 3) (hb : ¬ (nu X i < lo ∨ hi < nI (nu X i))) : am_run (d + 2) 201 [.ref 133, .int (nI lo), .int hi] (am_hp n μ ν) = some (some (.int (nI (nu X i))), am_hp n (am_up μ 133 7 (nI (i + 1))) ν) := by
  have hP0 := hP
  have hN := tN_1k hX
  obtain ⟨hT, hG, hA, hF, hit⟩ := hP
  obtain ⟨t1, t2, t3, t4, t5⟩ := hT i hit
  have hkc := mS_c (kd_le X i)
  have hk4 := kd_le X i
  have hpl := pl_1k hX i
  have hv := kd_nu hk
  refine am_r201 (d := d + 1) (Nat.le_of_ble_eq_true rfl) [some (.ref 133), some (.int (nI lo)), some (.int hi)] rfl ?_
  refine am_q_aload_n rfl rfl ?_
  refine am_q_gi rfl rfl rfl hF ?_
  refine am_q_zneN rfl (by omega) (fun c_4 => absurd c_4 (by omega)) (fun c_4 => ?_)
  refine am_q_aload_n rfl rfl ?_
  refine am_q_gr rfl rfl rfl ?_
  refine am_q_aload_n rfl rfl ?_
  refine am_q_gi rfl rfl rfl hA ?_
  refine am_q_iald rfl rfl (am_ix_nI (show i < 1002 by omega) (by decide)) t1 ?_
  refine am_q_iconst (v := nI 2) rfl rfl ?_
  refine am_q_ieqN rfl (by omega) (by omega) (fun c_17 => ?_) (fun c_17 => absurd (hkc.2.2.1.mpr hk) c_17)
  refine am_q_aload_n rfl rfl ?_
  refine am_q_gi rfl rfl rfl hF ?_
  refine am_q_zneN rfl (by omega) (fun c_32 => absurd c_32 (by omega)) (fun c_32 => ?_)
  refine am_q_aload_n rfl rfl ?_
  refine am_q_gr rfl rfl rfl ?_
  refine am_q_aload_n rfl rfl ?_
  refine am_q_gi rfl rfl rfl hA ?_
  refine am_q_lald rfl rfl (am_ix_nI (show i < 1002 by omega) (by decide)) (t4 hk) ?_
  refine am_q_iload_n rfl rfl ?_
  refine am_q_i2l rfl rfl ?_
  refine am_q_lcmp rfl rfl ?_
  refine am_q_if_lt rfl (fun c_47 => absurd (Or.inl ((tn_lo hv hlo).mp c_47)) hb) (fun c_47 => ?_)
  refine am_q_aload_n rfl rfl ?_
  refine am_q_gr rfl rfl rfl ?_
  refine am_q_aload_n rfl rfl ?_
  refine am_q_gi rfl rfl rfl hA ?_
  refine am_q_lald rfl rfl (am_ix_nI (show i < 1002 by omega) (by decide)) (t4 hk) ?_
  refine am_q_iload_n rfl rfl ?_
  refine am_q_i2l rfl rfl ?_
  refine am_q_lcmp rfl rfl ?_
  refine am_q_if_le rfl (fun c_62 => ?_) (fun c_62 => absurd ((tn_hi hv).mpr (fun q => hb (Or.inr q))) c_62)
  refine am_q_aload_n rfl rfl ?_
  refine am_q_gi rfl rfl rfl hF ?_
  refine am_q_zleN rfl (by omega) (fun c_74 => ?_) (fun c_74 => absurd c_74 (by omega))
  refine am_q_aload_n rfl rfl ?_
  refine am_q_dupr rfl ?_
  refine am_q_gi rfl rfl rfl hA ?_
  refine am_q_iconst (v := nI 1) rfl rfl ?_
  refine am_q_iadd rfl (nI_add _ _) ?_
  refine am_q_pi rfl rfl rfl (Or.inl rfl) ?_
  refine am_q_aload_n rfl rfl ?_
  refine am_q_gr rfl rfl rfl ?_
  refine am_q_aload_n rfl rfl ?_
  refine am_q_gi rfl rfl rfl am_up_eq ?_
  refine am_q_iconst (v := nI 1) rfl rfl ?_
  refine am_q_isub rfl (show nI (i + 1) - nI 1 = nI i from pk_sub (by omega)) ?_
  refine am_q_lald rfl rfl (am_ix_nI (show i < 1002 by omega) (by decide)) (t4 hk) ?_
  refine am_q_l2i rfl (lN_i _) ?_
  refine am_q_ireturn rfl rfl rfl ?_
  rfl

theorem m_takeNum0 (d lo : Nat) (hlo : lo < 2 ^ 20) (hi : Int32) (n i : Nat) {X : tTp} {μ : am_M2} (ν : am_N2) (hX : tpOk X) (hP : mP μ ν X i) : am_run (d + 2) 201 [.ref 133, .int (nI lo), .int hi] (am_hp n μ ν) = some (some (.int (nI (mRv (pNumI X i lo hi)))), am_hp n (mRs μ i (pNumI X i lo hi)) ν) := by
  unfold pNumI
  by_cases hk : kd X i = 3
  · rw [if_neg (fun z => z hk)]
    by_cases hb : nu X i < lo ∨ hi < nI (nu X i)
    · rw [if_pos hb]; exact m_num_b d lo hlo hi n i ν hX hP hk hb
    · rw [if_neg hb]; exact m_num_c d lo hlo hi n i ν hX hP hk hb
  · rw [if_pos hk]; exact m_num_a d lo hlo hi n i ν hX hP hk
/-- StoneSecretsModel.takeNumber(II)I -/
theorem m_takeNum1 (d : Nat) (x y : Int32) (n c : Nat) {μ : am_M2} (ν : am_N2) (hc : 0 < c) (hc2 : c < 2 ^ 30) (hF : μ 133 8 = nI c) : am_run (d + 2) 201 [.ref 133, .int x, .int y] (am_hp n μ ν) = some (some (.int (nI 0)), am_hp n μ ν) := by
  refine am_r201 (d := d + 1) (Nat.le_of_ble_eq_true rfl) [some (.ref 133), some (.int x), some (.int y)] rfl ?_
  refine am_q_aload_n rfl rfl ?_
  refine am_q_gi rfl rfl rfl hF ?_
  refine am_q_zneN rfl (by omega) (fun c_4 => ?_) (fun c_4 => absurd c_4 (by omega))
  refine am_q_aload_n rfl rfl ?_
  refine am_q_gi rfl rfl rfl hF ?_
  refine am_q_zneN rfl (by omega) (fun c_32 => ?_) (fun c_32 => absurd c_32 (by omega))
  refine am_q_aload_n rfl rfl ?_
  refine am_q_gi rfl rfl rfl hF ?_
  refine am_q_zleN rfl (by omega) (fun c_74 => absurd c_74 (by omega)) (fun c_74 => ?_)
  refine am_q_iconst (v := nI 0) rfl rfl ?_
  refine am_q_ireturn rfl rfl rfl ?_
  rfl

/-- what stands once a fault is set, or i moves on -/
theorem mP_at {μ : am_M2} {ν : am_N2} {X : tTp} {i j : Nat} (hP : mP μ ν X i) (hj : j ≤ tN X) : mP (am_up μ 133 7 (nI j)) ν X j :=
  ⟨fun k hk => ⟨(am_up_ne (by omega)).trans (hP.1 k hk).1, (am_up_ne (by omega)).trans (hP.1 k hk).2.1, (hP.1 k hk).2.2⟩, hP.2.1, am_up_eq, (am_up_ne (by omega)).trans hP.2.2.2.1, hj⟩
theorem mP_c {μ μ' : am_M2} {ν ν' : am_N2} {X : tTp} {i : Nat} (hP : mP μ ν X i) (h : ∀ k, μ' 135 k = μ 135 k ∧ μ' 136 k = μ 136 k) (h7 : μ' 133 7 = μ 133 7) (h8 : μ' 133 8 = μ 133 8) (hv : ∀ k, ν' 137 k = ν 137 k ∧ ν' 138 k = ν 138 k) : mP μ' ν' X i :=
  ⟨fun k hk => ⟨(h k).1.trans (hP.1 k hk).1, (h k).2.trans (hP.1 k hk).2.1, fun z => (hv k).1.trans ((hP.1 k hk).2.2.1 z), fun z => (hv k).1.trans ((hP.1 k hk).2.2.2.1 z), fun z => (hv k).1.trans ((hP.1 k hk).2.2.2.2 z)⟩, fun r hr => (hv r).2.trans (hP.2.1 r hr), h7.trans hP.2.2.1, h8.trans hP.2.2.2.1, hP.2.2.2.2⟩
def aftM (X : tTp) (i r lo : Nat) (hi : Int32) : Nat ⊕ Nat := if isWd X i r = true then pNumI X (i + 1) lo hi else .inl (wr X i 1)
def aftS (μ : am_M2) (X : tTp) (i r lo : Nat) (hi : Int32) : am_M2 := if isWd X i r = true then mRs (am_up μ 133 7 (nI (i + 1))) (i + 1) (pNumI X (i + 1) lo hi) else am_up μ 133 8 (nI (wr X i 1))
/-- StoneSecretsModel.takeAfter(III)I -/
theorem m_aft_a (d : Nat) (r : Nat) (hr : r < 22) (lo : Nat) (hlo : lo < 2 ^ 20) (hi : Int32) (n i : Nat) {X : tTp} {μ : am_M2} (ν : am_N2) (hX : tpOk X) (hP : mP μ ν X i) (hw : isWd X i r = true) : am_run (d + 4) 198 [.ref 133, .int (nI r), .int (nI lo), .int hi] (am_hp n μ ν) = some (some (.int (nI (mRv (pNumI X (i + 1) lo hi)))), am_hp n (mRs (am_up μ 133 7 (nI (i + 1))) (i + 1) (pNumI X (i + 1) lo hi)) ν) := by
  refine am_r198 (d := d + 3) (Nat.le_of_ble_eq_true rfl) [some (.ref 133), some (.int (nI r)), some (.int (nI lo)), some (.int hi)] rfl ?_
  refine am_q_aload_n rfl rfl ?_
  refine am_q_iload_n rfl rfl ?_
  obtain ⟨μ1, hc1, he1⟩ := m_takeWord0 d r hr n i ν hX hP
  rw [if_pos hw] at he1
  subst he1
  refine am_q_call rfl rfl (hc1) rfl ?_
  refine am_q_aload_n rfl rfl ?_
  refine am_q_iload_n rfl rfl ?_
  refine am_q_iload_n rfl rfl ?_
  refine am_q_call rfl rfl (m_takeNum0 _ lo hlo hi n (i + 1) ν hX (mP_at hP (tN_s hP.2.2.2.2 (wd_k hw)))) rfl ?_
  refine am_q_ireturn rfl rfl rfl ?_
  rfl

/-- StoneSecretsModel.takeAfter(III)I -/
theorem m_aft_b (d : Nat) (r : Nat) (hr : r < 22) (lo : Nat) (hlo : lo < 2 ^ 20) (hi : Int32) (n i : Nat) {X : tTp} {μ : am_M2} (ν : am_N2) (hX : tpOk X) (hP : mP μ ν X i) (hw : ¬ isWd X i r = true) : am_run (d + 4) 198 [.ref 133, .int (nI r), .int (nI lo), .int hi] (am_hp n μ ν) = some (some (.int (nI 0)), am_hp n (am_up μ 133 8 (nI (wr X i 1))) ν) := by
  obtain ⟨w0, w1⟩ := wr_b hX i (k := 1) (by decide) (by decide)
  refine am_r198 (d := d + 3) (Nat.le_of_ble_eq_true rfl) [some (.ref 133), some (.int (nI r)), some (.int (nI lo)), some (.int hi)] rfl ?_
  refine am_q_aload_n rfl rfl ?_
  refine am_q_iload_n rfl rfl ?_
  obtain ⟨μ1, hc1, he1⟩ := m_takeWord0 d r hr n i ν hX hP
  rw [if_neg hw] at he1
  subst he1
  refine am_q_call rfl rfl (hc1) rfl ?_
  refine am_q_aload_n rfl rfl ?_
  refine am_q_iload_n rfl rfl ?_
  refine am_q_iload_n rfl rfl ?_
  refine am_q_call rfl rfl (m_takeNum1 _ _ _ n (wr X i 1) ν w0 (by omega) am_up_eq) rfl ?_
  refine am_q_ireturn rfl rfl rfl ?_
  rfl

theorem m_takeAfter0 (d r : Nat) (hr : r < 22) (lo : Nat) (hlo : lo < 2 ^ 20) (hi : Int32) (n i : Nat) {X : tTp} {μ : am_M2} (ν : am_N2) (hX : tpOk X) (hP : mP μ ν X i) : am_run (d + 4) 198 [.ref 133, .int (nI r), .int (nI lo), .int hi] (am_hp n μ ν) = some (some (.int (nI (mRv (aftM X i r lo hi)))), am_hp n (aftS μ X i r lo hi) ν) := by
  unfold aftM aftS
  by_cases hw : isWd X i r = true
  · rw [if_pos hw, if_pos hw]; exact m_aft_a d r hr lo hlo hi n i ν hX hP hw
  · rw [if_neg hw, if_neg hw]; exact m_aft_b d r hr lo hlo hi n i ν hX hP hw
/-- StoneSecretsModel.takeAfter(III)I -/
theorem m_takeAfter1 (d : Nat) (x y z : Int32) (r : Nat) (hxr : x = nI r) (i : Nat) (n c : Nat) {μ : am_M2} (ν : am_N2) (hc : 0 < c) (hc2 : c < 2 ^ 30) (hF : μ 133 8 = nI c) (hA : μ 133 7 = nI i) : am_run (d + 4) 198 [.ref 133, .int x, .int y, .int z] (am_hp n μ ν) = some (some (.int (nI 0)), am_hp n μ ν) := by
  refine am_r198 (d := d + 3) (Nat.le_of_ble_eq_true rfl) [some (.ref 133), some (.int x), some (.int y), some (.int z)] rfl ?_
  refine am_q_aload_n rfl rfl ?_
  refine am_q_iload_n rfl rfl ?_
  subst hxr
  refine am_q_call rfl rfl (m_takeWord1 _ r i n c ν hc hc2 hF hA) rfl ?_
  refine am_q_aload_n rfl rfl ?_
  refine am_q_iload_n rfl rfl ?_
  refine am_q_iload_n rfl rfl ?_
  refine am_q_call rfl rfl (m_takeNum1 _ _ _ n c ν hc hc2 hF) rfl ?_
  refine am_q_ireturn rfl rfl rfl ?_
  rfl
