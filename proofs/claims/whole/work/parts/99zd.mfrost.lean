theorem pNum_b {X : tTp} (hX : tpOk X) {i lo hi c : Nat} (h : pNum X i lo hi = .inl c) : 0 < c ∧ c < 2 ^ 20 := by
  unfold pNum at h
  split at h
  · injection h with h; rw [← h]; exact wr_b hX i (by decide) (by decide)
  · split at h
    · injection h with h; rw [← h]; exact wr_b hX i (by decide) (by decide)
    · cases h
theorem m_rfA (d n j t : Nat) {X : tTp} {μ : am_M2} {ν : am_N2} (hX : tpOk X) (hP : mP μ ν X j) (ht : t ≤ 12) (o2 : Option Value) (c : Nat) (hr : pNum X j 0 9 = .inl c) (Q : am_R → Prop) (K : Q (none, am_hp n (am_up (am_up μ 133 8 (nI c)) 139 53 (nI t)) ν)) : am_w (d + 3) (Option.none : Option FieldType) am_g204 2 [some (.ref 133), some (.int (nI t)), o2] [] (am_hp n μ ν) (Q) := by
  have hN := tN_1k hX
  have hjN := hP.2.2.2.2
  obtain ⟨b1, b2⟩ := pNum_b hX hr
  refine am_q_aload_n rfl rfl ?_
  refine am_q_iconst (v := nI 0) rfl rfl ?_
  refine am_q_bipush (v := nI 9) rfl rfl ?_
  have hpn : pNumI X j 0 (nI 9) = pNum X j 0 9 := pNumI_N (by decide)
  have hc1 := m_takeNum0 (d + 1) 0 (by decide) (nI 9) n j ν hX hP
  rw [hpn, hr] at hc1
  dsimp only [mRv, mRs] at hc1
  refine am_q_call rfl rfl (hc1) rfl ?_
  refine am_q_istore_n [some _, some _, some _] rfl (Nat.le_of_ble_eq_true rfl) rfl ?_
  refine am_q_aload_n rfl rfl ?_
  refine am_q_gi rfl rfl rfl am_up_eq ?_
  refine am_q_zneN rfl (by omega) (fun c_14 => ?_) (fun c_14 => absurd c_14 (by omega))
  refine am_q_aload_n rfl rfl ?_
  refine am_q_gi rfl rfl rfl am_up_eq ?_
  refine am_q_zneN rfl (by omega) (fun c_42 => ?_) (fun c_42 => absurd c_42 (by omega))
  refine am_q_aload_n rfl rfl ?_
  refine am_q_gi rfl rfl rfl am_up_eq ?_
  refine am_q_zneN rfl (by omega) (fun c_62 => ?_) (fun c_62 => absurd c_62 (by omega))
  refine am_q_aload_n rfl rfl ?_
  refine am_q_gr rfl rfl rfl ?_
  refine am_q_bipush (v := nI 53) rfl rfl ?_
  refine am_q_iload_n rfl rfl ?_
  refine am_q_iast rfl rfl (am_ix_nI (show 53 < 100 by omega) (by decide)) rfl ?_
  refine am_q_return rfl rfl ?_
  exact K

theorem m_rfB (d n j t : Nat) {X : tTp} {μ : am_M2} {ν : am_N2} (hX : tpOk X) (hP : mP μ ν X j) (ht : t ≤ 12) (o2 : Option Value) (v : Nat) (hr : pNum X j 0 9 = .inr v) (h12 : t = 12) (Q : am_R → Prop) (K : Q (none, am_hp n (am_up (am_up (am_up (am_up μ 133 7 (nI (j + 1))) 133 7 (nI j)) 133 8 (nI (wr X j 5))) 139 53 (nI t)) ν)) : am_w (d + 3) (Option.none : Option FieldType) am_g204 2 [some (.ref 133), some (.int (nI t)), o2] [] (am_hp n μ ν) (Q) := by
  have hN := tN_1k hX
  have hjN := hP.2.2.2.2
  obtain ⟨b1, b2⟩ := wr_b hX j (k := 5) (by decide) (by decide)
  have hj1 := tN_s hjN (nz (pN_k hr) (by decide))
  have hP2 : mP (am_up (am_up μ 133 7 (nI (j + 1))) 133 7 (nI j)) ν X j := mP_at (mP_at hP hj1) hjN
  refine am_q_aload_n rfl rfl ?_
  refine am_q_iconst (v := nI 0) rfl rfl ?_
  refine am_q_bipush (v := nI 9) rfl rfl ?_
  have hpn : pNumI X j 0 (nI 9) = pNum X j 0 9 := pNumI_N (by decide)
  have hc1 := m_takeNum0 (d + 1) 0 (by decide) (nI 9) n j ν hX hP
  rw [hpn, hr] at hc1
  dsimp only [mRv, mRs] at hc1
  refine am_q_call rfl rfl (hc1) rfl ?_
  refine am_q_istore_n [some _, some _, some _] rfl (Nat.le_of_ble_eq_true rfl) rfl ?_
  refine am_q_aload_n rfl rfl ?_
  refine am_q_gi rfl rfl rfl ((am_up_ne (by omega)).trans hP.2.2.2.1) ?_
  refine am_q_zneN rfl (by omega) (fun c_14 => absurd c_14 (by omega)) (fun c_14 => ?_)
  refine am_q_iload_n rfl rfl ?_
  refine am_q_bipush (v := nI 12) rfl rfl ?_
  refine am_q_ineN rfl (by omega) (by omega) (fun c_20 => absurd c_20 (by omega)) (fun c_20 => ?_)
  refine am_q_aload_n rfl rfl ?_
  refine am_q_dupr rfl ?_
  refine am_q_gi rfl rfl rfl am_up_eq ?_
  refine am_q_iconst (v := nI 1) rfl rfl ?_
  refine am_q_isub rfl (show nI (j + 1) - nI 1 = nI j from pk_sub (by omega)) ?_
  refine am_q_pi rfl rfl rfl (Or.inl rfl) ?_
  refine am_q_aload_n rfl rfl ?_
  refine am_q_iconst (v := nI 5) rfl rfl ?_
  refine am_q_call rfl rfl (m_wrong0 _ 5 n j ν hX hP2) rfl ?_
  refine am_q_aload_n rfl rfl ?_
  refine am_q_gi rfl rfl rfl am_up_eq ?_
  refine am_q_zneN rfl (by omega) (fun c_42 => ?_) (fun c_42 => absurd c_42 (by omega))
  refine am_q_aload_n rfl rfl ?_
  refine am_q_gi rfl rfl rfl am_up_eq ?_
  refine am_q_zneN rfl (by omega) (fun c_62 => ?_) (fun c_62 => absurd c_62 (by omega))
  refine am_q_aload_n rfl rfl ?_
  refine am_q_gr rfl rfl rfl ?_
  refine am_q_bipush (v := nI 53) rfl rfl ?_
  refine am_q_iload_n rfl rfl ?_
  refine am_q_iast rfl rfl (am_ix_nI (show 53 < 100 by omega) (by decide)) rfl ?_
  refine am_q_return rfl rfl ?_
  exact K

theorem m_rfC (d n j t : Nat) {X : tTp} {μ : am_M2} {ν : am_N2} (hX : tpOk X) (hP : mP μ ν X j) (ht : t ≤ 12) (o2 : Option Value) (v : Nat) (hr : pNum X j 0 9 = .inr v) (h12 : t < 12) (Q : am_R → Prop) (K1 : kd X (j + 1) = 3 → am_w (d + 3) (Option.none : Option FieldType) am_g204 2 [some (.ref 133), some (.int (nI (t + 1))), some (.int (nI v))] [] (am_hp n (am_up (am_up μ 133 7 (nI (j + 1))) 139 (79 + t) (nI v)) ν) Q) (K2 : ¬ kd X (j + 1) = 3 → Q (none, am_hp n (am_up (am_up (am_up μ 133 7 (nI (j + 1))) 139 (79 + t) (nI v)) 139 53 (nI (t + 1))) ν)) : am_w (d + 3) (Option.none : Option FieldType) am_g204 2 [some (.ref 133), some (.int (nI t)), o2] [] (am_hp n μ ν) (Q) := by
  have hN := tN_1k hX
  have hjN := hP.2.2.2.2
  have hj1 := tN_s hjN (nz (pN_k hr) (by decide))
  have hT1 := (hP.1 (j + 1) hj1).1
  have hkc := mS_c (kd_le X (j + 1))
  refine am_q_aload_n rfl rfl ?_
  refine am_q_iconst (v := nI 0) rfl rfl ?_
  refine am_q_bipush (v := nI 9) rfl rfl ?_
  have hpn : pNumI X j 0 (nI 9) = pNum X j 0 9 := pNumI_N (by decide)
  have hc1 := m_takeNum0 (d + 1) 0 (by decide) (nI 9) n j ν hX hP
  rw [hpn, hr] at hc1
  dsimp only [mRv, mRs] at hc1
  refine am_q_call rfl rfl (hc1) rfl ?_
  refine am_q_istore_n [some _, some _, some _] rfl (Nat.le_of_ble_eq_true rfl) rfl ?_
  refine am_q_aload_n rfl rfl ?_
  refine am_q_gi rfl rfl rfl ((am_up_ne (by omega)).trans hP.2.2.2.1) ?_
  refine am_q_zneN rfl (by omega) (fun c_14 => absurd c_14 (by omega)) (fun c_14 => ?_)
  refine am_q_iload_n rfl rfl ?_
  refine am_q_bipush (v := nI 12) rfl rfl ?_
  refine am_q_ineN rfl (by omega) (by omega) (fun c_20 => ?_) (fun c_20 => absurd c_20 (by omega))
  refine am_q_aload_n rfl rfl ?_
  refine am_q_gi rfl rfl rfl ((am_up_ne (by omega)).trans hP.2.2.2.1) ?_
  refine am_q_zneN rfl (by omega) (fun c_42 => absurd c_42 (by omega)) (fun c_42 => ?_)
  refine am_q_aload_n rfl rfl ?_
  refine am_q_gr rfl rfl rfl ?_
  refine am_q_bipush (v := nI 79) rfl rfl ?_
  refine am_q_iload_n rfl rfl ?_
  refine am_q_iadd rfl (nI_add _ _) ?_
  refine am_q_iload_n rfl rfl ?_
  refine am_q_iast rfl rfl (am_ix_nI (show 79 + t < 100 by omega) (by decide)) rfl ?_
  refine am_q_iinc [some _, some _, some _] rfl (c := nI 1) rfl rfl (Nat.le_of_ble_eq_true rfl) (nI_add _ _) rfl ?_
  refine am_q_aload_n rfl rfl ?_
  refine am_q_gi rfl rfl rfl ((am_up_ne (by omega)).trans ((am_up_ne (by omega)).trans hP.2.2.2.1)) ?_
  refine am_q_zneN rfl (by omega) (fun c_62 => absurd c_62 (by omega)) (fun c_62 => ?_)
  refine am_q_aload_n rfl rfl ?_
  refine am_q_gr rfl rfl rfl ?_
  refine am_q_aload_n rfl rfl ?_
  refine am_q_gi rfl rfl rfl ((am_up_ne (by omega)).trans am_up_eq) ?_
  refine am_q_iald rfl rfl (am_ix_nI (show j + 1 < 1002 by omega) (by decide)) ((am_up_ne (by omega)).trans ((am_up_ne (by omega)).trans hT1)) ?_
  refine am_q_iconst (v := nI 2) rfl rfl ?_
  refine am_q_ieqN rfl (by omega) (by omega) (fun c_75 => ?_) (fun c_75 => ?_)
  · exact K1 (hkc.2.2.1.mp c_75)
  · refine am_q_aload_n rfl rfl ?_
    refine am_q_gr rfl rfl rfl ?_
    refine am_q_bipush (v := nI 53) rfl rfl ?_
    refine am_q_iload_n rfl rfl ?_
    refine am_q_iast rfl rfl (am_ix_nI (show 53 < 100 by omega) (by decide)) rfl ?_
    refine am_q_return rfl rfl ?_
    exact K2 (fun z => c_75 (hkc.2.2.1.mpr z))
