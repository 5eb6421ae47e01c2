theorem m_vcC (d n : Nat) (μ : am_M2) {ν : am_N2} (Q : am_R → Prop) (K : ∀ ν', (∀ t, t < 6 → ν' 141 t = ν 141 (6 + t)) → (∀ a b, ¬ (a = 141 ∧ b < 6) → ν' a b = ν a b) → am_w (d + 34) (Option.some FieldType.int) am_g184 154 [some (.ref 133), some (.int (nI 6))] [] (am_hp n μ ν') Q) : ∀ (m j : Nat) (ν1 : am_N2), j + m = 6 → ((∀ t, t < j → ν1 141 t = ν 141 (6 + t)) ∧ ∀ a b, ¬ (a = 141 ∧ b < 6) → ν1 a b = ν a b) → am_w (d + 34) (Option.some FieldType.int) am_g184 127 [some (.ref 133), some (.int (nI j))] [] (am_hp n μ ν1) (Q) := by
  intro m
  induction m with
  | zero =>
    intro j ν1 hj hinv
    refine am_q_iload_n rfl rfl ?_
    refine am_q_bipush (v := nI 6) rfl rfl ?_
    refine am_q_igeN rfl (by omega) (by omega) (fun c_130 => ?_) (fun c_130 => absurd c_130 (by omega))
    have e : j = 6 := by omega
    subst e
    exact K ν1 hinv.1 hinv.2
  | succ m ih =>
    intro j ν1 hj hinv
    refine am_q_iload_n rfl rfl ?_
    refine am_q_bipush (v := nI 6) rfl rfl ?_
    refine am_q_igeN rfl (by omega) (by omega) (fun c_130 => absurd c_130 (by omega)) (fun c_130 => ?_)
    refine am_q_aload_n rfl rfl ?_
    refine am_q_gr rfl rfl rfl ?_
    refine am_q_iload_n rfl rfl ?_
    refine am_q_aload_n rfl rfl ?_
    refine am_q_gr rfl rfl rfl ?_
    refine am_q_bipush (v := nI 6) rfl rfl ?_
    refine am_q_iload_n rfl rfl ?_
    refine am_q_iadd rfl (nI_add _ _) ?_
    refine am_q_lald rfl rfl (am_ix_nI (show 6 + j < 12 by omega) (by decide)) (hinv.2 141 (6 + j) (by omega)) ?_
    refine am_q_last rfl rfl (am_ix_nI (show j < 12 by omega) (by decide)) ?_
    refine am_q_iinc [some _, some _] rfl (c := nI 1) rfl rfl (Nat.le_of_ble_eq_true rfl) (nI_add _ _) rfl ?_
    refine am_q_goto rfl ?_
    refine ih (j + 1) _ (by omega) ⟨fun t ht => ?_, fun a b z => (upL_n (by omega)).trans (hinv.2 a b z)⟩
    by_cases e : t = j
    · rw [e]; exact upL_e
    · exact (upL_n (by omega)).trans (hinv.1 t (by omega))
