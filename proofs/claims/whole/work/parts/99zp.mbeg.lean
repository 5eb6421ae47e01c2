theorem m_begL (d n : Nat) {μ : am_M2} (ν : am_N2) : ∀ (m j : Nat) (μ1 : am_M2), j + m = 4 → ((∀ t, t < j → μ1 146 t = nI 0) ∧ ∀ a b, ¬ (a = 146 ∧ b < 4) → μ1 a b = μ a b) → am_w (d + 1) (Option.none : Option FieldType) am_g182 27 [some (.ref 133), some (.int (nI j))] [] (am_hp n μ1 ν) (fun y => ∃ μ', y = (none, am_hp n μ' ν) ∧ (∀ t, t < 4 → μ' 146 t = nI 0) ∧ ∀ a b, ¬ (a = 146 ∧ b < 4) → μ' a b = μ a b) := by
  intro m
  induction m with
  | zero =>
    intro j μ1 hj hinv
    refine am_q_iload_n rfl rfl ?_
    refine am_q_iconst (v := nI 4) rfl rfl ?_
    refine am_q_igeN rfl (by omega) (by omega) (fun c_29 => ?_) (fun c_29 => absurd c_29 (by omega))
    refine am_q_return rfl rfl ?_
    exact ⟨_, rfl, fun t ht => hinv.1 t (by omega), hinv.2⟩
  | succ m ih =>
    intro j μ1 hj hinv
    refine am_q_iload_n rfl rfl ?_
    refine am_q_iconst (v := nI 4) rfl rfl ?_
    refine am_q_igeN rfl (by omega) (by omega) (fun c_29 => absurd c_29 (by omega)) (fun c_29 => ?_)
    refine am_q_aload_n rfl rfl ?_
    refine am_q_gr rfl rfl rfl ?_
    refine am_q_iload_n rfl rfl ?_
    refine am_q_iconst (v := nI 0) rfl rfl ?_
    refine am_q_zast rfl rfl (am_ix_nI (show j < 4 by omega) (by decide)) (by first | rfl | decide) ?_
    refine am_q_iinc [some _, some _] rfl (c := nI 1) rfl rfl (Nat.le_of_ble_eq_true rfl) (nI_add _ _) rfl ?_
    refine am_q_goto rfl ?_
    refine ih (j + 1) _ (by omega) ⟨fun t ht => ?_, fun a b z => (am_up_ne (by omega)).trans (hinv.2 a b z)⟩
    by_cases e : t = j
    · rw [e]; exact am_up_eq
    · exact (am_up_ne (by omega)).trans (hinv.1 t (by omega))
