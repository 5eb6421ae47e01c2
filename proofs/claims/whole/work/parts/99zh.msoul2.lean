theorem aft_f {X : tTp} (hX : tpOk X) {μ : am_M2} {i r lo c hi : Nat} (hA : μ 133 7 = nI i) (hh : hi < 2 ^ 31) (h : aftM X i r lo (nI hi) = .inl c) : aftS μ X i r lo (nI hi) 133 8 = nI c ∧ (∃ j, aftS μ X i r lo (nI hi) 133 7 = nI j) ∧ frMv μ (aftS μ X i r lo (nI hi)) ∧ 0 < c ∧ c < 2 ^ 20 := by
  unfold aftM at h
  unfold aftS
  by_cases hw : isWd X i r = true
  · rw [if_pos hw] at h ⊢
    rw [h]
    rw [pNumI_N hh] at h
    obtain ⟨a, b⟩ := pNum_b hX h
    exact ⟨am_up_eq, ⟨i + 1, (am_up_ne (by omega)).trans am_up_eq⟩, frMv_tr (frMv_3 (by omega)) (frMv_3 (by omega)), a, b⟩
  · rw [if_neg hw] at h ⊢
    injection h with h
    rw [← h]
    obtain ⟨a, b⟩ := wr_b hX i (k := 1) (by decide) (by decide)
    exact ⟨am_up_eq, ⟨i, (am_up_ne (by omega)).trans hA⟩, frMv_3 (by omega), a, b⟩
theorem aft_o {X : tTp} {μ : am_M2} {i r lo v hi : Nat} (hh : hi < 2 ^ 31) (h : aftM X i r lo (nI hi) = .inr v) : aftS μ X i r lo (nI hi) = am_up (am_up μ 133 7 (nI (i + 1))) 133 7 (nI (i + 2)) ∧ isWd X i r = true ∧ pNum X (i + 1) lo hi = .inr v := by
  unfold aftM at h
  unfold aftS
  by_cases hw : isWd X i r = true
  · rw [if_pos hw] at h ⊢
    rw [h]
    rw [pNumI_N hh] at h
    exact ⟨rfl, hw, h⟩
  · rw [if_neg hw] at h; cases h
theorem m_soT4 (d n j N : Nat) {X : tTp} {μ : am_M2} {ν : am_N2} (hX : tpOk X) (hP : mP μ ν X j) (hN6 : N < 6) (Q : am_R → Prop) (c : Nat) (hr : oneM X j 11 4 = .inl c) (hc0 : 0 < c) (hc2 : c < 2 ^ 20) (K : Q (none, am_hp n (am_up μ 133 8 (nI c)) ν)) : am_w (d + 4) (Option.none : Option FieldType) am_g192 96 [some (.ref 133), some (.int (nI N)), none, none, none] [] (am_hp n μ ν) (Q) := by
  have hN := tN_1k hX
  have hjN := hP.2.2.2.2
  have hc1 := m_takeOne0 (d + 1) 11 4 (by decide) n j ν hX hP
  rw [hr] at hc1
  dsimp only [mRv, mRs] at hc1
  refine am_q_aload_n rfl rfl ?_
  refine am_q_bipush (v := nI 11) rfl rfl ?_
  refine am_q_iconst (v := nI 4) rfl rfl ?_
  refine am_q_call rfl rfl (hc1) rfl ?_
  refine am_q_istore_n [some _, some _, some _, none, none] rfl (Nat.le_of_ble_eq_true rfl) rfl ?_
  refine am_q_aload_n rfl rfl ?_
  refine am_q_iconst (v := nI 2) rfl rfl ?_
  refine am_q_iconst (v := nI 0) rfl rfl ?_
  refine am_q_bipush (v := nI 20) rfl rfl ?_
  refine am_q_call rfl rfl (m_takeAfter1 _ (nI 2) (nI 0) (nI 20) 2 rfl j n c ν hc0 (by omega) am_up_eq ((am_up_ne (by omega)).trans hP.2.2.1)) rfl ?_
  refine am_q_istore_n [some _, some _, some _, some _, none] rfl (Nat.le_of_ble_eq_true rfl) rfl ?_
  refine am_q_aload_n rfl rfl ?_
  refine am_q_iconst (v := nI 3) rfl rfl ?_
  refine am_q_iconst (v := nI 0) rfl rfl ?_
  refine am_q_bipush (v := nI 60) rfl rfl ?_
  refine am_q_call rfl rfl (m_takeAfter1 _ (nI 3) (nI 0) (nI 60) 3 rfl j n c ν hc0 (by omega) am_up_eq ((am_up_ne (by omega)).trans hP.2.2.1)) rfl ?_
  refine am_q_istore [some _, some _, some _, some _, some _] rfl (Nat.le_of_ble_eq_true rfl) rfl ?_
  refine am_q_aload_n rfl rfl ?_
  refine am_q_gi rfl rfl rfl am_up_eq ?_
  refine am_q_zneN rfl (by omega) (fun c_127 => ?_) (fun c_127 => absurd c_127 (by omega))
  refine am_q_return rfl rfl ?_
  exact K

theorem m_soT5 (d n j N : Nat) {X : tTp} {μ : am_M2} {ν : am_N2} (hX : tpOk X) (hP : mP μ ν X j) (hN6 : N < 6) (Q : am_R → Prop) (x c : Nat) (hr : oneM X j 11 4 = .inr x) (hj1 : j + 1 ≤ tN X) (hr2 : aftM X (j + 1) 2 0 (nI 20) = .inl c) (K : ∀ μ2 i2, μ2 133 8 = nI c → μ2 133 7 = nI i2 → 0 < c → c < 2 ^ 20 → frMv μ μ2 → Q (none, am_hp n μ2 ν)) : am_w (d + 4) (Option.none : Option FieldType) am_g192 96 [some (.ref 133), some (.int (nI N)), none, none, none] [] (am_hp n μ ν) (Q) := by
  have hN := tN_1k hX
  have hjN := hP.2.2.2.2
  have hc1 := m_takeOne0 (d + 1) 11 4 (by decide) n j ν hX hP
  rw [hr] at hc1
  dsimp only [mRv, mRs] at hc1
  have hP1 := mP_at hP hj1
  have hc3 := m_takeAfter0 d 2 (by decide) 0 (by decide) (nI 20) n (j + 1) ν hX hP1
  rw [hr2] at hc3
  dsimp only [mRv] at hc3
  obtain ⟨e1, ⟨i2, e2⟩, e3, hc0, hc2⟩ := aft_f hX (μ := am_up μ 133 7 (nI (j + 1))) am_up_eq (by decide) hr2
  refine am_q_aload_n rfl rfl ?_
  refine am_q_bipush (v := nI 11) rfl rfl ?_
  refine am_q_iconst (v := nI 4) rfl rfl ?_
  refine am_q_call rfl rfl (hc1) rfl ?_
  refine am_q_istore_n [some _, some _, some _, none, none] rfl (Nat.le_of_ble_eq_true rfl) rfl ?_
  refine am_q_aload_n rfl rfl ?_
  refine am_q_iconst (v := nI 2) rfl rfl ?_
  refine am_q_iconst (v := nI 0) rfl rfl ?_
  refine am_q_bipush (v := nI 20) rfl rfl ?_
  refine am_q_call rfl rfl (hc3) rfl ?_
  refine am_q_istore_n [some _, some _, some _, some _, none] rfl (Nat.le_of_ble_eq_true rfl) rfl ?_
  refine am_q_aload_n rfl rfl ?_
  refine am_q_iconst (v := nI 3) rfl rfl ?_
  refine am_q_iconst (v := nI 0) rfl rfl ?_
  refine am_q_bipush (v := nI 60) rfl rfl ?_
  refine am_q_call rfl rfl (m_takeAfter1 _ (nI 3) (nI 0) (nI 60) 3 rfl i2 n c ν hc0 (by omega) e1 e2) rfl ?_
  refine am_q_istore [some _, some _, some _, some _, some _] rfl (Nat.le_of_ble_eq_true rfl) rfl ?_
  refine am_q_aload_n rfl rfl ?_
  refine am_q_gi rfl rfl rfl e1 ?_
  refine am_q_zneN rfl (by omega) (fun c_127 => ?_) (fun c_127 => absurd c_127 (by omega))
  refine am_q_return rfl rfl ?_
  exact K _ i2 e1 e2 hc0 hc2 (frMv_tr (frMv_3 (by omega)) e3)
