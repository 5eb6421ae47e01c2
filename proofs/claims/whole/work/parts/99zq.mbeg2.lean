/-- StoneSecretsModel.begins()V -/
theorem m_begins (d : Nat) (n : Nat) {μ : am_M2} (ν : am_N2) : ∃ (μ' : am_M2), am_run (d + 2) 182 [.ref 133] (am_hp n μ ν) = some (none, am_hp n μ' ν) ∧ (mWall μ' 0 w0 ∧ μ' 145 13 = nI 0 ∧ μ' 142 0 = nI 0 ∧ μ' 133 18 = nI 0 ∧ (∀ t, t < 4 → μ' 146 t = nI 0) ∧ ∀ a b, a ≠ 142 → a ≠ 143 → a ≠ 144 → a ≠ 145 → a ≠ 146 → ¬ (a = 133 ∧ b = 18) → μ' a b = μ a b) := by
  have key : ∃ r, am_run (d + 2) 182 [.ref 133] (am_hp n μ ν) = some r ∧ ∃ (μ' : am_M2), r = (none, am_hp n μ' ν) ∧ (mWall μ' 0 w0 ∧ μ' 145 13 = nI 0 ∧ μ' 142 0 = nI 0 ∧ μ' 133 18 = nI 0 ∧ (∀ t, t < 4 → μ' 146 t = nI 0) ∧ ∀ a b, a ≠ 142 → a ≠ 143 → a ≠ 144 → a ≠ 145 → a ≠ 146 → ¬ (a = 133 ∧ b = 18) → μ' a b = μ a b) := am_run_wE (k := 182) (d := d + 1) rfl rfl (Nat.le_of_ble_eq_true rfl) [some (.ref 133), none] rfl (by
    refine am_q_aload_n rfl rfl ?_
    refine am_q_iconst (v := nI 0) rfl rfl ?_
    obtain ⟨μ1, hc1, hW1, hf1⟩ := m_starts d n 0 (by decide) μ ν
    refine am_q_call rfl rfl (hc1) rfl ?_
    refine am_q_aload_n rfl rfl ?_
    refine am_q_gr rfl rfl rfl ?_
    refine am_q_bipush (v := nI 13) rfl rfl ?_
    refine am_q_iconst (v := nI 0) rfl rfl ?_
    refine am_q_iast rfl rfl (am_ix_nI (show 13 < 836 by omega) (by decide)) rfl ?_
    refine am_q_aload_n rfl rfl ?_
    refine am_q_gr rfl rfl rfl ?_
    refine am_q_iconst (v := nI 0) rfl rfl ?_
    refine am_q_iconst (v := nI 0) rfl rfl ?_
    refine am_q_iast rfl rfl (am_ix_nI (show 0 < 250 by omega) (by decide)) rfl ?_
    refine am_q_aload_n rfl rfl ?_
    refine am_q_iconst (v := nI 0) rfl rfl ?_
    refine am_q_pi rfl rfl rfl (Or.inl rfl) ?_
    refine am_q_iconst (v := nI 0) rfl rfl ?_
    refine am_q_istore_n [some _, some _] rfl (Nat.le_of_ble_eq_true rfl) rfl ?_
    refine am_w_mono (fun y hy => ?_) (m_begL d n ν 4 0 _ (by omega) ⟨fun t ht => absurd ht (Nat.not_lt_zero _), fun _ _ _ => rfl⟩)
    obtain ⟨μ3, rfl, e1, e2⟩ := hy
    have g : ∀ a b, ¬ (a = 145 ∧ b = 13) → ¬ (a = 142 ∧ b = 0) → ¬ (a = 133 ∧ b = 18) → ¬ (a = 146 ∧ b < 4) → μ3 a b = μ1 a b := fun a b z1 z2 z3 z4 => (e2 a b z4).trans ((am_up_ne (by omega)).trans ((am_up_ne (by omega)).trans (am_up_ne (by omega))))
    refine ⟨_, rfl, ⟨(g 145 0 (by omega) (by omega) (by omega) (by omega)).trans hW1.1, fun s hs => ⟨(g 145 _ (by omega) (by omega) (by omega) (by omega)).trans (hW1.2 s hs).1, (g 145 _ (by omega) (by omega) (by omega) (by omega)).trans (hW1.2 s hs).2⟩⟩, ?_, ?_, ?_, e1, fun a b z1 z2 z3 z4 z5 z6 => (g a b (by omega) (by omega) z6 (by omega)).trans (hf1 a b z2 z3 (fun q => absurd q z4))⟩
    · exact (e2 145 13 (by omega)).trans ((am_up_ne (by omega)).trans ((am_up_ne (by omega)).trans am_up_eq))
    · exact (e2 142 0 (by omega)).trans ((am_up_ne (by omega)).trans am_up_eq)
    · exact (e2 133 18 (by omega)).trans am_up_eq)
  obtain ⟨r, h1, μ', h2, h3⟩ := key
  exact ⟨μ', by rw [h1, h2], h3⟩
