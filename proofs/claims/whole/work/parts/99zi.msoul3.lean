theorem m_soT6 (d n j N : Nat) {X : tTp} {μ : am_M2} {ν : am_N2} (hX : tpOk X) (hP : mP μ ν X j) (hN6 : N < 6) (Q : am_R → Prop) (x s : Nat) (hr : oneM X j 11 4 = .inr x) (hj1 : j + 1 ≤ tN X) (hr2 : aftM X (j + 1) 2 0 (nI 20) = .inr s) (c : Nat) (hr3 : aftM X (j + 1 + 2) 3 0 (nI 60) = .inl c) (K : ∀ μ2 i2, μ2 133 8 = nI c → μ2 133 7 = nI i2 → 0 < c → c < 2 ^ 20 → frMv μ μ2 → Q (none, am_hp n μ2 ν)) : am_w (d + 4) (Option.none : Option FieldType) am_g192 96 [some (.ref 133), some (.int (nI N)), none, none, none] [] (am_hp n μ ν) (Q) := by
  have hN := tN_1k hX
  have hjN := hP.2.2.2.2
  have hc1 := m_takeOne0 (d + 1) 11 4 (by decide) n j ν hX hP
  rw [hr] at hc1
  dsimp only [mRv, mRs] at hc1
  have hP1 := mP_at hP hj1
  have hc3 := m_takeAfter0 d 2 (by decide) 0 (by decide) (nI 20) n (j + 1) ν hX hP1
  obtain ⟨f1, f2, f3⟩ := aft_o (μ := am_up μ 133 7 (nI (j + 1))) (by decide) hr2
  rw [hr2, f1] at hc3
  dsimp only [mRv] at hc3
  have hj2 := tN_s hj1 (wd_k f2)
  have hj3 := tN_s hj2 (nz (pN_k f3) (by decide))
  have hP3 : mP (am_up (am_up (am_up μ 133 7 (nI (j + 1))) 133 7 (nI (j + 1 + 1))) 133 7 (nI (j + 1 + 2))) ν X (j + 1 + 2) := mP_at (mP_at hP1 hj2) hj3
  have hc4 := m_takeAfter0 d 3 (by decide) 0 (by decide) (nI 60) n (j + 1 + 2) ν hX hP3
  rw [hr3] at hc4
  dsimp only [mRv] at hc4
  obtain ⟨e1, ⟨i2, e2⟩, e3, hc0, hc2⟩ := aft_f hX (μ := am_up (am_up (am_up μ 133 7 (nI (j + 1))) 133 7 (nI (j + 1 + 1))) 133 7 (nI (j + 1 + 2))) am_up_eq (by decide) hr3
  refine am_q_aload_n rfl rfl ?_
  refine am_q_bipush (v := nI 11) rfl rfl ?_
  refine am_q_iconst (v := nI 4) rfl rfl ?_
  refine am_q_call rfl rfl (hc1) rfl ?_
  refine am_q_istore_n [some _, some _, some _, none, none] rfl (Nat.le_of_ble_eq_true rfl) rfl ?_
  refine am_q_aload_n rfl rfl ?_
  refine am_q_iconst (v := nI 2) rfl rfl ?_
  refine am_q_iconst (v := nI 0) rfl rfl ?_
  refine am_q_bipush (v := nI 20) rfl rfl ?_
  refine am_q_call rfl rfl (hc3) rfl ?_
  refine am_q_istore_n [some _, some _, some _, some _, none] rfl (Nat.le_of_ble_eq_true rfl) rfl ?_
  refine am_q_aload_n rfl rfl ?_
  refine am_q_iconst (v := nI 3) rfl rfl ?_
  refine am_q_iconst (v := nI 0) rfl rfl ?_
  refine am_q_bipush (v := nI 60) rfl rfl ?_
  refine am_q_call rfl rfl (hc4) rfl ?_
  refine am_q_istore [some _, some _, some _, some _, some _] rfl (Nat.le_of_ble_eq_true rfl) rfl ?_
  refine am_q_aload_n rfl rfl ?_
  refine am_q_gi rfl rfl rfl e1 ?_
  refine am_q_zneN rfl (by omega) (fun c_127 => ?_) (fun c_127 => absurd c_127 (by omega))
  refine am_q_return rfl rfl ?_
  exact K _ i2 e1 e2 hc0 hc2 (frMv_tr (frMv_tr (frMv_tr (frMv_3 (by omega)) (frMv_3 (by omega))) (frMv_3 (by omega))) e3)

theorem m_soT7 (d n j N : Nat) {X : tTp} {μ : am_M2} {ν : am_N2} (hX : tpOk X) (hP : mP μ ν X j) (hN6 : N < 6) (Q : am_R → Prop) (x s : Nat) (hr : oneM X j 11 4 = .inr x) (hj1 : j + 1 ≤ tN X) (hr2 : aftM X (j + 1) 2 0 (nI 20) = .inr s) (t : Nat) (hr3 : aftM X (j + 1 + 2) 3 0 (nI 60) = .inr t) (h51 : μ 139 51 = nI N) (K : ∀ μ2, mP μ2 ν X (j + 5) → frMv μ μ2 → μ2 139 51 = nI (N + 1) → μ2 139 (55 + 3 * N) = nI x → μ2 139 (55 + 3 * N + 1) = nI s → μ2 139 (55 + 3 * N + 2) = nI t → (∀ a b, ¬ (a = 133 ∧ b ≠ 12) → ¬ (a = 139 ∧ (b = 51 ∨ b = 55 + 3 * N ∨ b = 55 + 3 * N + 1 ∨ b = 55 + 3 * N + 2)) → μ2 a b = μ a b) → Q (none, am_hp n μ2 ν)) : am_w (d + 4) (Option.none : Option FieldType) am_g192 96 [some (.ref 133), some (.int (nI N)), none, none, none] [] (am_hp n μ ν) (Q) := by
  have hN := tN_1k hX
  have hjN := hP.2.2.2.2
  have hc1 := m_takeOne0 (d + 1) 11 4 (by decide) n j ν hX hP
  rw [hr] at hc1
  dsimp only [mRv, mRs] at hc1
  have hP1 := mP_at hP hj1
  have hc3 := m_takeAfter0 d 2 (by decide) 0 (by decide) (nI 20) n (j + 1) ν hX hP1
  obtain ⟨f1, f2, f3⟩ := aft_o (μ := am_up μ 133 7 (nI (j + 1))) (by decide) hr2
  rw [hr2, f1] at hc3
  dsimp only [mRv] at hc3
  have hj2 := tN_s hj1 (wd_k f2)
  have hj3 := tN_s hj2 (nz (pN_k f3) (by decide))
  have hP3 : mP (am_up (am_up (am_up μ 133 7 (nI (j + 1))) 133 7 (nI (j + 1 + 1))) 133 7 (nI (j + 1 + 2))) ν X (j + 1 + 2) := mP_at (mP_at hP1 hj2) hj3
  have hc4 := m_takeAfter0 d 3 (by decide) 0 (by decide) (nI 60) n (j + 1 + 2) ν hX hP3
  obtain ⟨g1, g2, g3⟩ := aft_o (μ := am_up (am_up (am_up μ 133 7 (nI (j + 1))) 133 7 (nI (j + 1 + 1))) 133 7 (nI (j + 1 + 2))) (by decide) hr3
  rw [hr3, g1] at hc4
  dsimp only [mRv] at hc4
  have hj4 := tN_s hj3 (wd_k g2)
  have hj5 := tN_s hj4 (nz (pN_k g3) (by decide))
  have hP5 := mP_at (mP_at hP3 hj4) hj5
  have q0 : ∀ a b, ¬ (a = 133 ∧ b ≠ 12) → am_up (am_up (am_up (am_up (am_up μ 133 7 (nI (j + 1))) 133 7 (nI (j + 1 + 1))) 133 7 (nI (j + 1 + 2))) 133 7 (nI (j + 1 + 2 + 1))) 133 7 (nI (j + 1 + 2 + 2)) a b = μ a b := fun a b z => by rw [am_up_ne (by omega), am_up_ne (by omega), am_up_ne (by omega), am_up_ne (by omega), am_up_ne (by omega)]
  refine am_q_aload_n rfl rfl ?_
  refine am_q_bipush (v := nI 11) rfl rfl ?_
  refine am_q_iconst (v := nI 4) rfl rfl ?_
  refine am_q_call rfl rfl (hc1) rfl ?_
  refine am_q_istore_n [some _, some _, some _, none, none] rfl (Nat.le_of_ble_eq_true rfl) rfl ?_
  refine am_q_aload_n rfl rfl ?_
  refine am_q_iconst (v := nI 2) rfl rfl ?_
  refine am_q_iconst (v := nI 0) rfl rfl ?_
  refine am_q_bipush (v := nI 20) rfl rfl ?_
  refine am_q_call rfl rfl (hc3) rfl ?_
  refine am_q_istore_n [some _, some _, some _, some _, none] rfl (Nat.le_of_ble_eq_true rfl) rfl ?_
  refine am_q_aload_n rfl rfl ?_
  refine am_q_iconst (v := nI 3) rfl rfl ?_
  refine am_q_iconst (v := nI 0) rfl rfl ?_
  refine am_q_bipush (v := nI 60) rfl rfl ?_
  refine am_q_call rfl rfl (hc4) rfl ?_
  refine am_q_istore [some _, some _, some _, some _, some _] rfl (Nat.le_of_ble_eq_true rfl) rfl ?_
  refine am_q_aload_n rfl rfl ?_
  refine am_q_gi rfl rfl rfl hP5.2.2.2.1 ?_
  refine am_q_zneN rfl (by omega) (fun c_127 => absurd c_127 (by omega)) (fun c_127 => ?_)
  refine am_q_aload_n rfl rfl ?_
  refine am_q_gr rfl rfl rfl ?_
  refine am_q_bipush (v := nI 55) rfl rfl ?_
  refine am_q_iconst (v := nI 3) rfl rfl ?_
  refine am_q_iload_n rfl rfl ?_
  refine am_q_imul rfl (pk_mul _ _) ?_
  refine am_q_iadd rfl (nI_add _ _) ?_
  refine am_q_iload_n rfl rfl ?_
  refine am_q_iast rfl rfl (am_ix_nI (show 55 + 3 * N < 100 by omega) (by decide)) rfl ?_
  refine am_q_aload_n rfl rfl ?_
  refine am_q_gr rfl rfl rfl ?_
  refine am_q_bipush (v := nI 55) rfl rfl ?_
  refine am_q_iconst (v := nI 3) rfl rfl ?_
  refine am_q_iload_n rfl rfl ?_
  refine am_q_imul rfl (pk_mul _ _) ?_
  refine am_q_iadd rfl (nI_add _ _) ?_
  refine am_q_iconst (v := nI 1) rfl rfl ?_
  refine am_q_iadd rfl (nI_add _ _) ?_
  refine am_q_iload_n rfl rfl ?_
  refine am_q_iast rfl rfl (am_ix_nI (show 55 + 3 * N + 1 < 100 by omega) (by decide)) rfl ?_
  refine am_q_aload_n rfl rfl ?_
  refine am_q_gr rfl rfl rfl ?_
  refine am_q_bipush (v := nI 55) rfl rfl ?_
  refine am_q_iconst (v := nI 3) rfl rfl ?_
  refine am_q_iload_n rfl rfl ?_
  refine am_q_imul rfl (pk_mul _ _) ?_
  refine am_q_iadd rfl (nI_add _ _) ?_
  refine am_q_iconst (v := nI 2) rfl rfl ?_
  refine am_q_iadd rfl (nI_add _ _) ?_
  refine am_q_iload rfl rfl ?_
  refine am_q_iast rfl rfl (am_ix_nI (show 55 + 3 * N + 2 < 100 by omega) (by decide)) rfl ?_
  refine am_q_aload_n rfl rfl ?_
  refine am_q_gr rfl rfl rfl ?_
  refine am_q_bipush (v := nI 51) rfl rfl ?_
  refine am_q_dup2ir rfl ?_
  refine am_q_iald rfl rfl (am_ix_nI (show 51 < 100 by omega) (by decide)) ((am_up_ne (by omega)).trans ((am_up_ne (by omega)).trans ((am_up_ne (by omega)).trans ((q0 139 51 (by omega)).trans h51)))) ?_
  refine am_q_iconst (v := nI 1) rfl rfl ?_
  refine am_q_iadd rfl (nI_add _ _) ?_
  refine am_q_iast rfl rfl (am_ix_nI (show 51 < 100 by omega) (by decide)) rfl ?_
  refine am_q_return rfl rfl ?_
  refine K _ (mP_c hP5 (fun k => ⟨?_, ?_⟩) ?_ ?_ (fun k => ⟨rfl, rfl⟩)) ?_ am_up_eq ?_ ?_ ?_ (fun a b z1 z2 => ?_)
  · rw [am_up_ne (by omega), am_up_ne (by omega), am_up_ne (by omega), am_up_ne (by omega)]
  · rw [am_up_ne (by omega), am_up_ne (by omega), am_up_ne (by omega), am_up_ne (by omega)]
  · rw [am_up_ne (by omega), am_up_ne (by omega), am_up_ne (by omega), am_up_ne (by omega)]
  · rw [am_up_ne (by omega), am_up_ne (by omega), am_up_ne (by omega), am_up_ne (by omega)]
  · exact frMv_tr (frMv_tr (frMv_tr (frMv_tr (fun a b z1 z2 z3 => by rw [am_up_ne (by omega), am_up_ne (by omega), am_up_ne (by omega), am_up_ne (by omega), am_up_ne (by omega)]) (frMv_9 (by omega))) (frMv_9 (by omega))) (frMv_9 (by omega))) (frMv_9 (by omega))
  · exact (am_up_ne (by omega)).trans ((am_up_ne (by omega)).trans ((am_up_ne (by omega)).trans am_up_eq))
  · exact (am_up_ne (by omega)).trans ((am_up_ne (by omega)).trans am_up_eq)
  · exact (am_up_ne (by omega)).trans am_up_eq
  · rw [am_up_ne (by omega), am_up_ne (by omega), am_up_ne (by omega), am_up_ne (by omega), q0 a b z1]
