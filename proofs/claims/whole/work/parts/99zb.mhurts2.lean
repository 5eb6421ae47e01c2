theorem mDf_h {μ μ' : am_M2} {ν : am_N2} {D : dft} {a b : Nat} (hD : mDf μ ν D) (ha : a < vN D.1) (hb : b < vN D.1) (hab : a ≠ b) (h52 : μ' 139 52 = nI (vQ D.1 + 1)) (h1 : μ' 139 (73 + a) = nI (vH D.1 a ||| 2 ^ b)) (h2 : μ' 139 (73 + b) = nI (vH D.1 b ||| 2 ^ a)) (hf : ∀ x k, ¬ (x = 133 ∧ k ≠ 12) → ¬ (x = 139 ∧ (k = 52 ∨ k = 73 + a ∨ k = 73 + b)) → μ' x k = μ x k) (hG : dG D) : mDf μ' ν (dH D a b) := by
  have h6 := hG.1.1.1
  have h12 := hG.1.1.2.2.1
  have hm : mF D.1 ≤ 12 := by unfold mF; split <;> omega
  refine ⟨⟨(hf 139 50 (by omega) (by omega)).trans hD.1.1, (hf 139 51 (by omega) (by omega)).trans hD.1.2.1, h52, (hf 139 53 (by omega) (by omega)).trans hD.1.2.2.2.1, (hf 139 91 (by omega) (by omega)).trans hD.1.2.2.2.2⟩, fun s hs => ?_, fun s hs => ?_, fun j hj => ?_, mDl_c hD.2.2.2.2.1 (hf 139 54 (by omega) (by omega)) (fun k _ => hf 140 k (by omega) (by omega)) (hf 133 12 (by omega) (by omega)) rfl rfl, hD.2.2.2.2.2⟩
  · have hs' : s < vN D.1 := hs
    obtain ⟨a, b, c⟩ := hD.2.1 s hs
    exact ⟨(hf 139 _ (by omega) (by omega)).trans a, (hf 139 _ (by omega) (by omega)).trans b, (hf 139 _ (by omega) (by omega)).trans c⟩
  · show μ' 139 (73 + s) = nI (if s = b then vH D.1 b ||| 2 ^ a else if s = a then vH D.1 a ||| 2 ^ b else vH D.1 s)
    by_cases sb : s = b
    · rw [if_pos sb, sb]; exact h2
    · rw [if_neg sb]
      by_cases sa : s = a
      · rw [if_pos sa, sa]; exact h1
      · rw [if_neg sa]; exact (hf 139 _ (by omega) (by omega)).trans (hD.2.2.1 s hs)
  · have hj' : j < mF D.1 := hj
    exact (hf 139 _ (by omega) (by omega)).trans (hD.2.2.2.1 j hj)
theorem m_liH3 (d n i : Nat) {X : tTp} {D : dft} {μ : am_M2} (ν : am_N2) (hX : tpOk X) (hP : mP μ ν X i) (hD : mDf μ ν D) (hG : dG D) (hw : isWd X i 4 = true) (a b : Nat) (hr1 : tolM X D.2.1 (vN D.1) (i + 1) 0 = .inr a) (hr2 : tolM X D.2.1 (vN D.1) (i + 2) (vH D.1 a ||| 2 ^ a) = .inr b) : am_w (d + 5) (Option.none : Option FieldType) am_g190 0 [some (.ref 133), none, none, none] [] (am_hp n μ ν) (mvQ X n μ ν (.inr (i + 3, dH D a b))) := by
  have hN := tN_1k hX
  have hN6 := hG.1.1.1
  have hiN := hP.2.2.2.2
  have hi1 := tN_s hiN (wd_k hw)
  have hP1 := mP_at hP hi1
  have hc1 := m_takeTold0 (d + 1) n (i + 1) ν hX hP1 6 (vN D.1) (by omega) hN6 hD.2.2.2.2.2 0 (by decide)
  rw [hr1] at hc1
  dsimp only [mRv, mRs] at hc1
  obtain ⟨ka, la, -⟩ := tol_s hr1
  have hi2 := tN_s hi1 (nz ka (by decide))
  have hP2 := mP_at hP1 hi2
  have hv64 : vH D.1 a ||| 2 ^ a < 64 := Nat.or_lt_two_pow (n := 6) (hG.1.2.2.1 a) (Nat.pow_lt_pow_right (by decide) (by omega))
  have hc2 := m_takeTold0 (d + 1) n (i + 2) ν hX hP2 6 (vN D.1) (by omega) hN6 hD.2.2.2.2.2 (vH D.1 a ||| 2 ^ a) hv64
  rw [hr2] at hc2
  dsimp only [mRv, mRs] at hc2
  obtain ⟨kb, lb, hnb⟩ := tol_s hr2
  have hi3 := tN_s hi2 (nz kb (by decide))
  have hP3 := mP_at hP2 hi3
  have hab : a ≠ b := fun z => hnb (by rw [tb_or, Bool.or_eq_true, decide_eq_true_eq]; exact Or.inr z)
  refine am_q_aload_n rfl rfl ?_
  refine am_q_gr rfl rfl rfl ?_
  refine am_q_bipush (v := nI 51) rfl rfl ?_
  refine am_q_iald rfl rfl (by first | exact am_ix_nI (by omega) (by omega) | rfl) hD.1.2.1 ?_
  refine am_q_istore_n [some _, some _, none, none] rfl (Nat.le_of_ble_eq_true rfl) rfl ?_
  refine am_q_aload_n rfl rfl ?_
  refine am_q_iconst (v := nI 1) rfl rfl ?_
  refine am_q_call rfl rfl (m_isWF _ 1 (by decide) n i ν hX hP (wd_u (by decide) (by decide) hw (by decide))) rfl ?_
  refine am_q_if_eqB rfl (fun c_13 => ?_) (fun c_13 => by simp at c_13)
  refine am_q_aload_n rfl rfl ?_
  refine am_q_iconst (v := nI 4) rfl rfl ?_
  refine am_q_call rfl rfl (m_isWT _ 4 (by decide) n i ν hX hP hw) rfl ?_
  refine am_q_if_eqB rfl (fun c_28 => by simp at c_28) (fun c_28 => ?_)
  refine am_q_aload_n rfl rfl ?_
  refine am_q_dupr rfl ?_
  refine am_q_gi rfl rfl rfl hP.2.2.1 ?_
  refine am_q_iconst (v := nI 1) rfl rfl ?_
  refine am_q_iadd rfl (nI_add _ _) ?_
  refine am_q_pi rfl rfl rfl (Or.inl rfl) ?_
  refine am_q_aload_n rfl rfl ?_
  refine am_q_bipush (v := nI 6) rfl rfl ?_
  refine am_q_iload_n rfl rfl ?_
  refine am_q_iconst (v := nI 0) rfl rfl ?_
  refine am_q_call rfl rfl (hc1) rfl ?_
  refine am_q_istore_n [some _, some _, some _, none] rfl (Nat.le_of_ble_eq_true rfl) rfl ?_
  refine am_q_aload_n rfl rfl ?_
  refine am_q_bipush (v := nI 6) rfl rfl ?_
  refine am_q_iload_n rfl rfl ?_
  refine am_q_aload_n rfl rfl ?_
  refine am_q_gr rfl rfl rfl ?_
  refine am_q_bipush (v := nI 73) rfl rfl ?_
  refine am_q_iload_n rfl rfl ?_
  refine am_q_iadd rfl (nI_add _ _) ?_
  refine am_q_iald rfl rfl (am_ix_nI (show 73 + a < 100 by omega) (by decide)) ((am_up_ne (by omega)).trans ((am_up_ne (by omega)).trans (hD.2.2.1 a (by omega)))) ?_
  refine am_q_iconst (v := nI 1) rfl rfl ?_
  refine am_q_iload_n rfl rfl ?_
  refine am_q_ishl rfl (sn_shl1 (by omega)) ?_
  refine am_q_ior rfl (sn_or _ _) ?_
  refine am_q_call rfl rfl (hc2) rfl ?_
  refine am_q_istore_n [some _, some _, some _, some _] rfl (Nat.le_of_ble_eq_true rfl) rfl ?_
  refine am_q_aload_n rfl rfl ?_
  refine am_q_gi rfl rfl rfl hP3.2.2.2.1 ?_
  refine am_q_zneN rfl (by omega) (fun c_75 => absurd c_75 (by omega)) (fun c_75 => ?_)
  refine am_q_aload_n rfl rfl ?_
  refine am_q_gr rfl rfl rfl ?_
  refine am_q_bipush (v := nI 73) rfl rfl ?_
  refine am_q_iload_n rfl rfl ?_
  refine am_q_iadd rfl (nI_add _ _) ?_
  refine am_q_dup2ir rfl ?_
  refine am_q_iald rfl rfl (am_ix_nI (show 73 + a < 100 by omega) (by decide)) ((am_up_ne (by omega)).trans ((am_up_ne (by omega)).trans ((am_up_ne (by omega)).trans (hD.2.2.1 a (by omega))))) ?_
  refine am_q_iconst (v := nI 1) rfl rfl ?_
  refine am_q_iload_n rfl rfl ?_
  refine am_q_ishl rfl (sn_shl1 (by omega)) ?_
  refine am_q_ior rfl (sn_or _ _) ?_
  refine am_q_iast rfl rfl (am_ix_nI (show 73 + a < 100 by omega) (by decide)) rfl ?_
  refine am_q_aload_n rfl rfl ?_
  refine am_q_gr rfl rfl rfl ?_
  refine am_q_bipush (v := nI 73) rfl rfl ?_
  refine am_q_iload_n rfl rfl ?_
  refine am_q_iadd rfl (nI_add _ _) ?_
  refine am_q_dup2ir rfl ?_
  refine am_q_iald rfl rfl (am_ix_nI (show 73 + b < 100 by omega) (by decide)) ((am_up_ne (by omega)).trans ((am_up_ne (by omega)).trans ((am_up_ne (by omega)).trans ((am_up_ne (by omega)).trans (hD.2.2.1 b (by omega)))))) ?_
  refine am_q_iconst (v := nI 1) rfl rfl ?_
  refine am_q_iload_n rfl rfl ?_
  refine am_q_ishl rfl (sn_shl1 (by omega)) ?_
  refine am_q_ior rfl (sn_or _ _) ?_
  refine am_q_iast rfl rfl (am_ix_nI (show 73 + b < 100 by omega) (by decide)) rfl ?_
  refine am_q_aload_n rfl rfl ?_
  refine am_q_gr rfl rfl rfl ?_
  refine am_q_bipush (v := nI 52) rfl rfl ?_
  refine am_q_dup2ir rfl ?_
  refine am_q_iald rfl rfl (am_ix_nI (show 52 < 100 by omega) (by decide)) ((am_up_ne (by omega)).trans ((am_up_ne (by omega)).trans ((am_up_ne (by omega)).trans ((am_up_ne (by omega)).trans ((am_up_ne (by omega)).trans (hD.1.2.2.1)))))) ?_
  refine am_q_iconst (v := nI 1) rfl rfl ?_
  refine am_q_iadd rfl (nI_add _ _) ?_
  refine am_q_iast rfl rfl (am_ix_nI (show 52 < 100 by omega) (by decide)) rfl ?_
  refine am_q_goto rfl ?_
  refine am_q_return rfl rfl ?_
  refine ⟨_, _, rfl, mP_c hP3 (fun k => ⟨?_, ?_⟩) ?_ ?_ (fun k => ⟨rfl, rfl⟩), mDf_h hD la lb hab am_up_eq ?_ ?_ (fun x k z1 z2 => ?_) hG, ?_, frMvL_rf ν⟩
  · rw [am_up_ne (by omega), am_up_ne (by omega), am_up_ne (by omega)]
  · rw [am_up_ne (by omega), am_up_ne (by omega), am_up_ne (by omega)]
  · rw [am_up_ne (by omega), am_up_ne (by omega), am_up_ne (by omega)]
  · rw [am_up_ne (by omega), am_up_ne (by omega), am_up_ne (by omega)]
  · exact (am_up_ne (by omega)).trans ((am_up_ne (by omega)).trans am_up_eq)
  · exact (am_up_ne (by omega)).trans am_up_eq
  · rw [am_up_ne (by omega), am_up_ne (by omega), am_up_ne (by omega), am_up_ne (by omega), am_up_ne (by omega), am_up_ne (by omega)]
  · exact frMv_tr (frMv_tr (frMv_tr (frMv_tr (frMv_tr (frMv_3 (by omega)) (frMv_3 (by omega))) (frMv_3 (by omega))) (frMv_9 (by omega))) (frMv_9 (by omega))) (frMv_9 (by omega))

theorem m_liH (d n i : Nat) {X : tTp} {D : dft} {μ : am_M2} (ν : am_N2) (hX : tpOk X) (hP : mP μ ν X i) (hD : mDf μ ν D) (hG : dG D) (hw : isWd X i 4 = true) : am_w (d + 5) (Option.none : Option FieldType) am_g190 0 [some (.ref 133), none, none, none] [] (am_hp n μ ν) (mvQ X n μ ν (pHurts X i D)) := by
  rw [hurts_eq]
  cases hr1 : tolM X D.2.1 (vN D.1) (i + 1) 0 with
  | inl c => exact m_liH1 d n i ν hX hP hD hG hw c hr1
  | inr a =>
    dsimp only
    cases hr2 : tolM X D.2.1 (vN D.1) (i + 2) (vH D.1 a ||| 2 ^ a) with
    | inl c => exact m_liH2 d n i ν hX hP hD hG hw a c hr1 hr2
    | inr b => exact m_liH3 d n i ν hX hP hD hG hw a b hr1 hr2