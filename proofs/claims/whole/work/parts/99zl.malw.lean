theorem m_alwL (d n : Nat) {μ : am_M2} (ν : am_N2) : ∀ (m j : Nat) (μ1 : am_M2), j + m = 50 → ((∀ t, t < j → μ1 139 (50 + t) = nI 0) ∧ ∀ a b, ¬ (a = 139 ∧ 50 ≤ b) → μ1 a b = μ a b) → am_w (d + 0) (Option.none : Option FieldType) am_g181 2 [some (.ref 133), some (.int (nI 50)), some (.int (nI j))] [] (am_hp n μ1 ν) (fun y => ∃ μ', y = (none, am_hp n μ' ν) ∧ μ' 139 53 = nI 1 ∧ μ' 139 54 = -1 ∧ (∀ t, t < 50 → t ≠ 3 → t ≠ 4 → μ' 139 (50 + t) = nI 0) ∧ ∀ a b, ¬ (a = 139 ∧ 50 ≤ b) → μ' a b = μ a b) := by
  intro m
  induction m with
  | zero =>
    intro j μ1 hj hinv
    refine am_q_iload_n rfl rfl ?_
    refine am_q_bipush (v := nI 50) rfl rfl ?_
    refine am_q_igeN rfl (by omega) (by omega) (fun c_5 => ?_) (fun c_5 => absurd c_5 (by omega))
    refine am_q_aload_n rfl rfl ?_
    refine am_q_gr rfl rfl rfl ?_
    refine am_q_iload_n rfl rfl ?_
    refine am_q_iconst (v := nI 3) rfl rfl ?_
    refine am_q_iadd rfl (nI_add _ _) ?_
    refine am_q_iconst (v := nI 1) rfl rfl ?_
    refine am_q_iast rfl rfl (am_ix_nI (show 50 + 3 < 100 by omega) (by decide)) rfl ?_
    refine am_q_aload_n rfl rfl ?_
    refine am_q_gr rfl rfl rfl ?_
    refine am_q_iload_n rfl rfl ?_
    refine am_q_iconst (v := nI 4) rfl rfl ?_
    refine am_q_iadd rfl (nI_add _ _) ?_
    refine am_q_iconst (v := -1) rfl rfl ?_
    refine am_q_iast rfl rfl (am_ix_nI (show 50 + 4 < 100 by omega) (by decide)) rfl ?_
    refine am_q_return rfl rfl ?_
    exact ⟨_, rfl, (am_up_ne (by omega)).trans am_up_eq, am_up_eq, fun t ht h3 h4 => (am_up_ne (by omega)).trans ((am_up_ne (by omega)).trans (hinv.1 t (by omega))), fun a b z => (am_up_ne (by omega)).trans ((am_up_ne (by omega)).trans (hinv.2 a b z))⟩
  | succ m ih =>
    intro j μ1 hj hinv
    refine am_q_iload_n rfl rfl ?_
    refine am_q_bipush (v := nI 50) rfl rfl ?_
    refine am_q_igeN rfl (by omega) (by omega) (fun c_5 => absurd c_5 (by omega)) (fun c_5 => ?_)
    refine am_q_aload_n rfl rfl ?_
    refine am_q_gr rfl rfl rfl ?_
    refine am_q_iload_n rfl rfl ?_
    refine am_q_iload_n rfl rfl ?_
    refine am_q_iadd rfl (nI_add _ _) ?_
    refine am_q_iconst (v := nI 0) rfl rfl ?_
    refine am_q_iast rfl rfl (am_ix_nI (show 50 + j < 100 by omega) (by decide)) rfl ?_
    refine am_q_iinc [some _, some _, some _] rfl (c := nI 1) rfl rfl (Nat.le_of_ble_eq_true rfl) (nI_add _ _) rfl ?_
    refine am_q_goto rfl ?_
    refine ih (j + 1) _ (by omega) ⟨fun t ht => ?_, fun a b z => (am_up_ne (by omega)).trans (hinv.2 a b z)⟩
    by_cases e : t = j
    · rw [e]; exact am_up_eq
    · exact (am_up_ne (by omega)).trans (hinv.1 t (by omega))

/-- StoneSecretsModel.standsAsAlways(I)V -/
theorem m_always (d : Nat) (n : Nat) {μ : am_M2} (ν : am_N2) : ∃ (μ' : am_M2), am_run (d + 1) 181 [.ref 133, .int (nI 50)] (am_hp n μ ν) = some (none, am_hp n μ' ν) ∧ (μ' 139 53 = nI 1 ∧ μ' 139 54 = -1 ∧ (∀ t, t < 50 → t ≠ 3 → t ≠ 4 → μ' 139 (50 + t) = nI 0) ∧ ∀ a b, ¬ (a = 139 ∧ 50 ≤ b) → μ' a b = μ a b) := by
  have key : ∃ r, am_run (d + 1) 181 [.ref 133, .int (nI 50)] (am_hp n μ ν) = some r ∧ ∃ (μ' : am_M2), r = (none, am_hp n μ' ν) ∧ (μ' 139 53 = nI 1 ∧ μ' 139 54 = -1 ∧ (∀ t, t < 50 → t ≠ 3 → t ≠ 4 → μ' 139 (50 + t) = nI 0) ∧ ∀ a b, ¬ (a = 139 ∧ 50 ≤ b) → μ' a b = μ a b) := am_run_wE (k := 181) (d := d + 0) rfl rfl (Nat.le_of_ble_eq_true rfl) [some (.ref 133), some (.int (nI 50)), none] rfl (by
    refine am_q_iconst (v := nI 0) rfl rfl ?_
    refine am_q_istore_n [some _, some _, some _] rfl (Nat.le_of_ble_eq_true rfl) rfl ?_
    exact m_alwL d n ν 50 0 μ (by omega) ⟨fun t ht => absurd ht (Nat.not_lt_zero _), fun _ _ _ => rfl⟩)
  obtain ⟨r, h1, μ', h2, h3⟩ := key
  exact ⟨μ', by rw [h1, h2], h3⟩

theorem mDf_0 {μ : am_M2} {ν : am_N2} (h53 : μ 139 53 = nI 1) (h54 : μ 139 54 = -1) (h : ∀ t, t < 50 → t ≠ 3 → t ≠ 4 → μ 139 (50 + t) = nI 0) (h12 : μ 133 12 = nI 0) : mDf μ ν d0 := by
  refine ⟨⟨h 0 (by decide) (by decide) (by decide), h 1 (by decide) (by decide) (by decide), h 2 (by decide) (by decide) (by decide), h53, h 41 (by decide) (by decide) (by decide)⟩, fun s hs => absurd hs (Nat.not_lt_zero _), fun s hs => ?_, fun j hj => ?_, Or.inl ⟨rfl, h54, rfl, h12⟩, fun s hs => absurd hs (Nat.not_lt_zero _), fun s t hs => absurd hs (Nat.not_lt_zero _)⟩
  · have e := h (23 + s) (by omega) (by omega) (by omega)
    rw [show 50 + (23 + s) = 73 + s by omega] at e
    exact e
  · have hj' : j < 1 := hj
    have e := h (29 + j) (by omega) (by omega) (by omega)
    rw [show 50 + (29 + j) = 79 + j by omega] at e
    exact e