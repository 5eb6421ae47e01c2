theorem tol_0 {X : tTp} {nm : Nat → Nat} {N i : Nat} : tolM X nm N i 0 = pTold X nm N i := by
  unfold tolM
  cases pTold X nm N i with
  | inl c => rfl
  | inr s => show (if (0 : Nat).testBit s = true then _ else _) = _; rw [if_neg (by rw [Nat.zero_testBit]; exact Bool.false_ne_true)]
theorem tol_b {X : tTp} (hX : tpOk X) {nm : Nat → Nat} {N i m c : Nat} (h : tolM X nm N i m = .inl c) : 0 < c ∧ c < 2 ^ 20 := by
  unfold tolM pTold at h
  by_cases hn : isNm X i = false
  · rw [if_pos hn] at h
    injection h with h
    rw [← h]; exact wr_b hX i (by decide) (by decide)
  · rw [if_neg hn] at h
    cases hf : fnd nm N (wd X i) with
    | none => rw [hf] at h; injection h with h; rw [← h]; exact wr_b hX i (by decide) (by decide)
    | some s =>
      rw [hf] at h
      simp only at h
      split at h
      · injection h with h; rw [← h]; exact wr_b hX i (by decide) (by decide)
      · cases h
theorem tol_s {X : tTp} {nm : Nat → Nat} {N i m s : Nat} (h : tolM X nm N i m = .inr s) : kd X i = 2 ∧ s < N ∧ ¬ m.testBit s = true := by
  unfold tolM at h
  cases hp : pTold X nm N i with
  | inl c => rw [hp] at h; cases h
  | inr t =>
    rw [hp] at h
    simp only at h
    split at h
    · cases h
    · rename_i c; injection h with h; rw [← h]; exact ⟨(pTold_s hp).1, (pTold_s hp).2, c⟩
theorem hurts_eq {X : tTp} {i : Nat} {D : dft} : pHurts X i D = (match tolM X D.2.1 (vN D.1) (i + 1) 0 with
    | .inl c => .inl c
    | .inr a => (match tolM X D.2.1 (vN D.1) (i + 2) (vH D.1 a ||| 2 ^ a) with
      | .inl c => .inl c
      | .inr b => .inr (i + 3, dH D a b))) := by
  rw [tol_0]
  unfold pHurts
  cases pTold X D.2.1 (vN D.1) (i + 1) with
  | inl c => rfl
  | inr a =>
    dsimp only
    unfold tolM
    cases pTold X D.2.1 (vN D.1) (i + 2) with
    | inl c => rfl
    | inr b =>
      dsimp only
      have e : (vH D.1 a ||| 2 ^ a).testBit b = true ↔ b = a ∨ (vH D.1 a).testBit b = true := by
        rw [tb_or, Bool.or_eq_true, decide_eq_true_eq]
        constructor
        · rintro (x | x)
          · exact Or.inr x
          · exact Or.inl x.symm
        · rintro (x | x)
          · exact Or.inr x.symm
          · exact Or.inl x
      by_cases c : b = a ∨ (vH D.1 a).testBit b = true
      · rw [if_pos c, if_pos (e.mpr c)]
      · rw [if_neg c, if_neg (fun z => c (e.mp z))]
theorem m_liH1 (d n i : Nat) {X : tTp} {D : dft} {μ : am_M2} (ν : am_N2) (hX : tpOk X) (hP : mP μ ν X i) (hD : mDf μ ν D) (hG : dG D) (hw : isWd X i 4 = true) (c : Nat) (hr1 : tolM X D.2.1 (vN D.1) (i + 1) 0 = .inl c) : am_w (d + 5) (Option.none : Option FieldType) am_g190 0 [some (.ref 133), none, none, none] [] (am_hp n μ ν) (mvQ X n μ ν (.inl c)) := by
  have hN := tN_1k hX
  have hN6 := hG.1.1.1
  have hiN := hP.2.2.2.2
  have hi1 := tN_s hiN (wd_k hw)
  have hP1 := mP_at hP hi1
  have hc1 := m_takeTold0 (d + 1) n (i + 1) ν hX hP1 6 (vN D.1) (by omega) hN6 hD.2.2.2.2.2 0 (by decide)
  rw [hr1] at hc1
  dsimp only [mRv, mRs] at hc1
  obtain ⟨hb1, hb2⟩ := tol_b hX hr1
  refine am_q_aload_n rfl rfl ?_
  refine am_q_gr rfl rfl rfl ?_
  refine am_q_bipush (v := nI 51) rfl rfl ?_
  refine am_q_iald rfl rfl (by first | exact am_ix_nI (by omega) (by omega) | rfl) hD.1.2.1 ?_
  refine am_q_istore_n [some _, some _, none, none] rfl (Nat.le_of_ble_eq_true rfl) rfl ?_
  refine am_q_aload_n rfl rfl ?_
  refine am_q_iconst (v := nI 1) rfl rfl ?_
  refine am_q_call rfl rfl (m_isWF _ 1 (by decide) n i ν hX hP (wd_u (by decide) (by decide) hw (by decide))) rfl ?_
  refine am_q_if_eqB rfl (fun c_13 => ?_) (fun c_13 => by simp at c_13)
  refine am_q_aload_n rfl rfl ?_
  refine am_q_iconst (v := nI 4) rfl rfl ?_
  refine am_q_call rfl rfl (m_isWT _ 4 (by decide) n i ν hX hP hw) rfl ?_
  refine am_q_if_eqB rfl (fun c_28 => by simp at c_28) (fun c_28 => ?_)
  refine am_q_aload_n rfl rfl ?_
  refine am_q_dupr rfl ?_
  refine am_q_gi rfl rfl rfl hP.2.2.1 ?_
  refine am_q_iconst (v := nI 1) rfl rfl ?_
  refine am_q_iadd rfl (nI_add _ _) ?_
  refine am_q_pi rfl rfl rfl (Or.inl rfl) ?_
  refine am_q_aload_n rfl rfl ?_
  refine am_q_bipush (v := nI 6) rfl rfl ?_
  refine am_q_iload_n rfl rfl ?_
  refine am_q_iconst (v := nI 0) rfl rfl ?_
  refine am_q_call rfl rfl (hc1) rfl ?_
  refine am_q_istore_n [some _, some _, some _, none] rfl (Nat.le_of_ble_eq_true rfl) rfl ?_
  refine am_q_aload_n rfl rfl ?_
  refine am_q_bipush (v := nI 6) rfl rfl ?_
  refine am_q_iload_n rfl rfl ?_
  refine am_q_aload_n rfl rfl ?_
  refine am_q_gr rfl rfl rfl ?_
  refine am_q_bipush (v := nI 73) rfl rfl ?_
  refine am_q_iload_n rfl rfl ?_
  refine am_q_iadd rfl (nI_add _ _) ?_
  refine am_q_iald rfl rfl (am_ix_nI (show 73 + 0 < 100 by omega) (by decide)) rfl ?_
  refine am_q_iconst (v := nI 1) rfl rfl ?_
  refine am_q_iload_n rfl rfl ?_
  refine am_q_ishl rfl rfl ?_
  refine am_q_ior rfl rfl ?_
  refine am_q_call rfl rfl (m_takeTold1 _ _ _ _ (i + 1) n c ν hb1 (by omega) am_up_eq ((am_up_ne (by omega)).trans am_up_eq)) rfl ?_
  refine am_q_istore_n [some _, some _, some _, some _] rfl (Nat.le_of_ble_eq_true rfl) rfl ?_
  refine am_q_aload_n rfl rfl ?_
  refine am_q_gi rfl rfl rfl am_up_eq ?_
  refine am_q_zneN rfl (by omega) (fun c_75 => ?_) (fun c_75 => absurd c_75 (by omega))
  refine am_q_goto rfl ?_
  refine am_q_return rfl rfl ?_
  exact ⟨_, _, i + 1, rfl, am_up_eq, hb1, hb2, (am_up_ne (by omega)).trans am_up_eq, frMv_tr (frMv_3 (by omega)) (frMv_3 (by omega)), frMvL_rf ν⟩

theorem m_liH2 (d n i : Nat) {X : tTp} {D : dft} {μ : am_M2} (ν : am_N2) (hX : tpOk X) (hP : mP μ ν X i) (hD : mDf μ ν D) (hG : dG D) (hw : isWd X i 4 = true) (a c : Nat) (hr1 : tolM X D.2.1 (vN D.1) (i + 1) 0 = .inr a) (hr2 : tolM X D.2.1 (vN D.1) (i + 2) (vH D.1 a ||| 2 ^ a) = .inl c) : am_w (d + 5) (Option.none : Option FieldType) am_g190 0 [some (.ref 133), none, none, none] [] (am_hp n μ ν) (mvQ X n μ ν (.inl c)) := by
  have hN := tN_1k hX
  have hN6 := hG.1.1.1
  have hiN := hP.2.2.2.2
  have hi1 := tN_s hiN (wd_k hw)
  have hP1 := mP_at hP hi1
  have hc1 := m_takeTold0 (d + 1) n (i + 1) ν hX hP1 6 (vN D.1) (by omega) hN6 hD.2.2.2.2.2 0 (by decide)
  rw [hr1] at hc1
  dsimp only [mRv, mRs] at hc1
  obtain ⟨ka, la, -⟩ := tol_s hr1
  have hi2 := tN_s hi1 (nz ka (by decide))
  have hP2 := mP_at hP1 hi2
  have hv64 : vH D.1 a ||| 2 ^ a < 64 := Nat.or_lt_two_pow (n := 6) (hG.1.2.2.1 a) (Nat.pow_lt_pow_right (by decide) (by omega))
  have hc2 := m_takeTold0 (d + 1) n (i + 2) ν hX hP2 6 (vN D.1) (by omega) hN6 hD.2.2.2.2.2 (vH D.1 a ||| 2 ^ a) hv64
  rw [hr2] at hc2
  dsimp only [mRv, mRs] at hc2
  obtain ⟨hb1, hb2⟩ := tol_b hX hr2
  refine am_q_aload_n rfl rfl ?_
  refine am_q_gr rfl rfl rfl ?_
  refine am_q_bipush (v := nI 51) rfl rfl ?_
  refine am_q_iald rfl rfl (by first | exact am_ix_nI (by omega) (by omega) | rfl) hD.1.2.1 ?_
  refine am_q_istore_n [some _, some _, none, none] rfl (Nat.le_of_ble_eq_true rfl) rfl ?_
  refine am_q_aload_n rfl rfl ?_
  refine am_q_iconst (v := nI 1) rfl rfl ?_
  refine am_q_call rfl rfl (m_isWF _ 1 (by decide) n i ν hX hP (wd_u (by decide) (by decide) hw (by decide))) rfl ?_
  refine am_q_if_eqB rfl (fun c_13 => ?_) (fun c_13 => by simp at c_13)
  refine am_q_aload_n rfl rfl ?_
  refine am_q_iconst (v := nI 4) rfl rfl ?_
  refine am_q_call rfl rfl (m_isWT _ 4 (by decide) n i ν hX hP hw) rfl ?_
  refine am_q_if_eqB rfl (fun c_28 => by simp at c_28) (fun c_28 => ?_)
  refine am_q_aload_n rfl rfl ?_
  refine am_q_dupr rfl ?_
  refine am_q_gi rfl rfl rfl hP.2.2.1 ?_
  refine am_q_iconst (v := nI 1) rfl rfl ?_
  refine am_q_iadd rfl (nI_add _ _) ?_
  refine am_q_pi rfl rfl rfl (Or.inl rfl) ?_
  refine am_q_aload_n rfl rfl ?_
  refine am_q_bipush (v := nI 6) rfl rfl ?_
  refine am_q_iload_n rfl rfl ?_
  refine am_q_iconst (v := nI 0) rfl rfl ?_
  refine am_q_call rfl rfl (hc1) rfl ?_
  refine am_q_istore_n [some _, some _, some _, none] rfl (Nat.le_of_ble_eq_true rfl) rfl ?_
  refine am_q_aload_n rfl rfl ?_
  refine am_q_bipush (v := nI 6) rfl rfl ?_
  refine am_q_iload_n rfl rfl ?_
  refine am_q_aload_n rfl rfl ?_
  refine am_q_gr rfl rfl rfl ?_
  refine am_q_bipush (v := nI 73) rfl rfl ?_
  refine am_q_iload_n rfl rfl ?_
  refine am_q_iadd rfl (nI_add _ _) ?_
  refine am_q_iald rfl rfl (am_ix_nI (show 73 + a < 100 by omega) (by decide)) ((am_up_ne (by omega)).trans ((am_up_ne (by omega)).trans (hD.2.2.1 a (by omega)))) ?_
  refine am_q_iconst (v := nI 1) rfl rfl ?_
  refine am_q_iload_n rfl rfl ?_
  refine am_q_ishl rfl (sn_shl1 (by omega)) ?_
  refine am_q_ior rfl (sn_or _ _) ?_
  refine am_q_call rfl rfl (hc2) rfl ?_
  refine am_q_istore_n [some _, some _, some _, some _] rfl (Nat.le_of_ble_eq_true rfl) rfl ?_
  refine am_q_aload_n rfl rfl ?_
  refine am_q_gi rfl rfl rfl am_up_eq ?_
  refine am_q_zneN rfl (by omega) (fun c_75 => ?_) (fun c_75 => absurd c_75 (by omega))
  refine am_q_goto rfl ?_
  refine am_q_return rfl rfl ?_
  exact ⟨_, _, i + 2, rfl, am_up_eq, hb1, hb2, (am_up_ne (by omega)).trans am_up_eq, frMv_tr (frMv_tr (frMv_3 (by omega)) (frMv_3 (by omega))) (frMv_3 (by omega)), frMvL_rf ν⟩
