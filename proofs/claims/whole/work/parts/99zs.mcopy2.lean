theorem m_vcB (d n C : Nat) (hC : C ≤ 1100) {μ : am_M2} (ν : am_N2) (h12 : μ 133 12 = nI C) (Q : am_R → Prop) (K : ∀ μ', (∀ t, t < C → μ' 140 t = μ 140 (1100 + t)) → (∀ a b, ¬ (a = 140 ∧ b < 1100) → μ' a b = μ a b) → am_w (d + 34) (Option.some FieldType.int) am_g184 125 [some (.ref 133), some (.int (nI C))] [] (am_hp n μ' ν) Q) : ∀ (m j : Nat) (μ1 : am_M2), j + m = C → ((∀ t, t < j → μ1 140 t = μ 140 (1100 + t)) ∧ ∀ a b, ¬ (a = 140 ∧ b < 1100) → μ1 a b = μ a b) → am_w (d + 34) (Option.some FieldType.int) am_g184 95 [some (.ref 133), some (.int (nI j))] [] (am_hp n μ1 ν) (Q) := by
  intro m
  induction m with
  | zero =>
    intro j μ1 hj hinv
    refine am_q_iload_n rfl rfl ?_
    refine am_q_aload_n rfl rfl ?_
    refine am_q_gi rfl rfl rfl ((hinv.2 133 12 (by omega)).trans h12) ?_
    refine am_q_igeN rfl (by omega) (by omega) (fun c_100 => ?_) (fun c_100 => absurd c_100 (by omega))
    have e : j = C := by omega
    subst e
    exact K μ1 hinv.1 hinv.2
  | succ m ih =>
    intro j μ1 hj hinv
    refine am_q_iload_n rfl rfl ?_
    refine am_q_aload_n rfl rfl ?_
    refine am_q_gi rfl rfl rfl ((hinv.2 133 12 (by omega)).trans h12) ?_
    refine am_q_igeN rfl (by omega) (by omega) (fun c_100 => absurd c_100 (by omega)) (fun c_100 => ?_)
    refine am_q_aload_n rfl rfl ?_
    refine am_q_gr rfl rfl rfl ?_
    refine am_q_iload_n rfl rfl ?_
    refine am_q_aload_n rfl rfl ?_
    refine am_q_gr rfl rfl rfl ?_
    refine am_q_sipush (v := nI 1100) rfl rfl ?_
    refine am_q_iload_n rfl rfl ?_
    refine am_q_iadd rfl (nI_add _ _) ?_
    refine am_q_iald rfl rfl (am_ix_nI (show 1100 + j < 2200 by omega) (by decide)) (hinv.2 140 (1100 + j) (by omega)) ?_
    refine am_q_iast rfl rfl (am_ix_nI (show j < 2200 by omega) (by decide)) rfl ?_
    refine am_q_iinc [some _, some _] rfl (c := nI 1) rfl rfl (Nat.le_of_ble_eq_true rfl) (nI_add _ _) rfl ?_
    refine am_q_goto rfl ?_
    refine ih (j + 1) _ (by omega) ⟨fun t ht => ?_, fun a b z => (am_up_ne (by omega)).trans (hinv.2 a b z)⟩
    by_cases e : t = j
    · rw [e]; exact am_up_eq
    · exact (am_up_ne (by omega)).trans (hinv.1 t (by omega))
