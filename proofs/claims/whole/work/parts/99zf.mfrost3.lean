theorem m_readFrosts (d n j : Nat) {X : tTp} {D : dft} {μ : am_M2} {ν : am_N2} (hX : tpOk X) (hP : mP μ ν X j) (hD : mDg μ ν D) (hG : dG D) (h0 : vF D.1 = 0) : ∃ y, am_run (d + 4) 204 [.ref 133] (am_hp n μ ν) = some y ∧ mvQ X n μ ν (pFrM X 1000 j D) y := by
  have hN := tN_1k hX
  refine am_run_wE (k := 204) (d := d + 3) (vs := [.ref 133]) rfl rfl (Nat.le_of_ble_eq_true rfl) [some (.ref 133), none, none] rfl ?_
  refine am_q_iconst (v := nI 0) rfl rfl ?_
  refine am_q_istore_n [some _, some _, none] rfl (Nat.le_of_ble_eq_true rfl) rfl ?_
  have g := m_rfL d n hX 1000 j D μ ν none hP hD hG (by omega)
  rw [h0] at g
  exact g
theorem on_f {D : dft} (h : ¬ 0 < vF D.1) : onB D ||| 2 ^ 1 = (if 0 < vP D.1 then 1 else 0) + 2 + (if D.2.2 = true then 4 else 0) := by
  unfold onB
  by_cases a : 0 < vP D.1 <;> cases c : D.2.2 <;> simp [h, a]
theorem mDf_g {μ μ' : am_M2} {ν : am_N2} {D : dft} (hD : mDf μ ν D) (h0 : ¬ 0 < vF D.1) (h91 : μ' 139 91 = nI (onB D ||| 2 ^ 1)) (hf : ∀ a k, ¬ (a = 133 ∧ k ≠ 12) → ¬ (a = 139 ∧ k = 91) → μ' a k = μ a k) (hG : dG D) : mDg μ' ν D := by
  have h6 := hG.1.1.1
  refine ⟨⟨(hf 139 50 (by omega) (by omega)).trans hD.1.1, (hf 139 51 (by omega) (by omega)).trans hD.1.2.1, (hf 139 52 (by omega) (by omega)).trans hD.1.2.2.1, by rw [h91, on_f h0]⟩, fun s hs => ?_, fun s hs => (hf 139 _ (by omega) (by omega)).trans (hD.2.2.1 s hs), fun j hj => absurd hj (by omega), mDl_c hD.2.2.2.2.1 (hf 139 54 (by omega) (by omega)) (fun k _ => hf 140 k (by omega) (by omega)) (hf 133 12 (by omega) (by omega)) rfl rfl, hD.2.2.2.2.2⟩
  obtain ⟨a, b, c⟩ := hD.2.1 s hs
  exact ⟨(hf 139 _ (by omega) (by omega)).trans a, (hf 139 _ (by omega) (by omega)).trans b, (hf 139 _ (by omega) (by omega)).trans c⟩
theorem m_liF1 (d n i : Nat) {X : tTp} {D : dft} {μ : am_M2} (ν : am_N2) (hX : tpOk X) (hP : mP μ ν X i) (hD : mDf μ ν D) (hG : dG D) (hw : isWd X i 5 = true) (h0 : 0 < vF D.1) : am_w (d + 5) (Option.none : Option FieldType) am_g190 0 [some (.ref 133), none, none, none] [] (am_hp n μ ν) (mvQ X n μ ν (pFrost X i D)) := by
  have hN := tN_1k hX
  have hN6 := hG.1.1.1
  have hiN := hP.2.2.2.2
  have hi1 := tN_s hiN (wd_k hw)
  refine am_q_aload_n rfl rfl ?_
  refine am_q_gr rfl rfl rfl ?_
  refine am_q_bipush (v := nI 51) rfl rfl ?_
  refine am_q_iald rfl rfl (by first | exact am_ix_nI (by omega) (by omega) | rfl) hD.1.2.1 ?_
  refine am_q_istore_n [some _, some _, none, none] rfl (Nat.le_of_ble_eq_true rfl) rfl ?_
  refine am_q_aload_n rfl rfl ?_
  refine am_q_iconst (v := nI 1) rfl rfl ?_
  refine am_q_call rfl rfl (m_isWF _ 1 (by decide) n i ν hX hP (wd_u (by decide) (by decide) hw (by decide))) rfl ?_
  refine am_q_if_eqB rfl (fun c_13 => ?_) (fun c_13 => by simp at c_13)
  refine am_q_aload_n rfl rfl ?_
  refine am_q_iconst (v := nI 4) rfl rfl ?_
  refine am_q_call rfl rfl (m_isWF _ 4 (by decide) n i ν hX hP (wd_u (by decide) (by decide) hw (by decide))) rfl ?_
  refine am_q_if_eqB rfl (fun c_28 => ?_) (fun c_28 => by simp at c_28)
  refine am_q_aload_n rfl rfl ?_
  refine am_q_iconst (v := nI 0) rfl rfl ?_
  refine am_q_call rfl rfl (m_isWF _ 0 (by decide) n i ν hX hP (wd_u (by decide) (by decide) hw (by decide))) rfl ?_
  refine am_q_if_eqB rfl (fun c_127 => ?_) (fun c_127 => by simp at c_127)
  refine am_q_aload_n rfl rfl ?_
  refine am_q_iconst (v := nI 5) rfl rfl ?_
  refine am_q_call rfl rfl (m_isWT _ 5 (by decide) n i ν hX hP hw) rfl ?_
  refine am_q_if_eqB rfl (fun c_160 => by simp at c_160) (fun c_160 => ?_)
  refine am_q_aload_n rfl rfl ?_
  refine am_q_iconst (v := nI 1) rfl rfl ?_
  refine am_q_call rfl rfl (m_once1 _ 1 (by decide) (onB D) on_b.2.2.2 n i ν hX hP hD.1.2.2.2.2 (on_b.2.1.trans (decide_eq_true h0))) rfl ?_
  refine am_q_if_eqB rfl (fun c_168 => ?_) (fun c_168 => by simp at c_168)
  refine am_q_return rfl rfl ?_
  unfold pFrost
  rw [if_pos h0]
  exact mv_wr hX (by decide) (by decide) (frMv_rf μ) (frMvL_rf ν) hP.2.2.1

theorem m_liF2 (d n i : Nat) {X : tTp} {D : dft} {μ : am_M2} (ν : am_N2) (hX : tpOk X) (hP : mP μ ν X i) (hD : mDf μ ν D) (hG : dG D) (hw : isWd X i 5 = true) (h0 : ¬ 0 < vF D.1) : am_w (d + 5) (Option.none : Option FieldType) am_g190 0 [some (.ref 133), none, none, none] [] (am_hp n μ ν) (mvQ X n μ ν (pFrost X i D)) := by
  have hN := tN_1k hX
  have hN6 := hG.1.1.1
  have hiN := hP.2.2.2.2
  have hi1 := tN_s hiN (wd_k hw)
  refine am_q_aload_n rfl rfl ?_
  refine am_q_gr rfl rfl rfl ?_
  refine am_q_bipush (v := nI 51) rfl rfl ?_
  refine am_q_iald rfl rfl (by first | exact am_ix_nI (by omega) (by omega) | rfl) hD.1.2.1 ?_
  refine am_q_istore_n [some _, some _, none, none] rfl (Nat.le_of_ble_eq_true rfl) rfl ?_
  refine am_q_aload_n rfl rfl ?_
  refine am_q_iconst (v := nI 1) rfl rfl ?_
  refine am_q_call rfl rfl (m_isWF _ 1 (by decide) n i ν hX hP (wd_u (by decide) (by decide) hw (by decide))) rfl ?_
  refine am_q_if_eqB rfl (fun c_13 => ?_) (fun c_13 => by simp at c_13)
  refine am_q_aload_n rfl rfl ?_
  refine am_q_iconst (v := nI 4) rfl rfl ?_
  refine am_q_call rfl rfl (m_isWF _ 4 (by decide) n i ν hX hP (wd_u (by decide) (by decide) hw (by decide))) rfl ?_
  refine am_q_if_eqB rfl (fun c_28 => ?_) (fun c_28 => by simp at c_28)
  refine am_q_aload_n rfl rfl ?_
  refine am_q_iconst (v := nI 0) rfl rfl ?_
  refine am_q_call rfl rfl (m_isWF _ 0 (by decide) n i ν hX hP (wd_u (by decide) (by decide) hw (by decide))) rfl ?_
  refine am_q_if_eqB rfl (fun c_127 => ?_) (fun c_127 => by simp at c_127)
  refine am_q_aload_n rfl rfl ?_
  refine am_q_iconst (v := nI 5) rfl rfl ?_
  refine am_q_call rfl rfl (m_isWT _ 5 (by decide) n i ν hX hP hw) rfl ?_
  refine am_q_if_eqB rfl (fun c_160 => by simp at c_160) (fun c_160 => ?_)
  refine am_q_aload_n rfl rfl ?_
  refine am_q_iconst (v := nI 1) rfl rfl ?_
  refine am_q_call rfl rfl (m_once0 _ 1 (by decide) (onB D) on_b.2.2.2 n i ν hX hP hD.1.2.2.2.2 (by rw [on_b.2.1]; exact fun z => h0 (of_decide_eq_true z))) rfl ?_
  refine am_q_if_eqB rfl (fun c_168 => by simp at c_168) (fun c_168 => ?_)
  refine am_q_aload_n rfl rfl ?_
  have hP1 : mP (am_up (am_up μ 139 91 (nI (onB D ||| 2 ^ 1))) 133 7 (nI (i + 1))) ν X (i + 1) := mP_at (mP_c hP (fun k => ⟨am_up_ne (by omega), am_up_ne (by omega)⟩) (am_up_ne (by omega)) (am_up_ne (by omega)) (fun k => ⟨rfl, rfl⟩)) hi1
  have hD1 : mDg (am_up (am_up μ 139 91 (nI (onB D ||| 2 ^ 1))) 133 7 (nI (i + 1))) ν D := mDf_g hD h0 ((am_up_ne (by omega)).trans am_up_eq) (fun a k z1 z2 => (am_up_ne (by omega)).trans (am_up_ne (by omega))) hG
  have hf0 : frMv μ (am_up (am_up μ 139 91 (nI (onB D ||| 2 ^ 1))) 133 7 (nI (i + 1))) := frMv_tr (frMv_9 (by omega)) (frMv_3 (by omega))
  obtain ⟨y, hy, hq⟩ := m_readFrosts (d + 1) n (i + 1) hX hP1 hD1 hG (by omega)
  have e : pFrost X i D = pFrM X 1000 (i + 1) D := by unfold pFrost; rw [if_neg h0]; rfl
  rw [e]
  cases hr : pFrM X 1000 (i + 1) D with
  | inl c =>
    rw [hr] at hq
    obtain ⟨μ2, ν2, i2, rfl, b1, b2, b3, b4, b5, b6⟩ := hq
    refine am_q_call rfl rfl hy rfl ?_
    refine am_q_goto rfl ?_
    refine am_q_return rfl rfl ?_
    exact ⟨_, _, i2, rfl, b1, b2, b3, b4, frMv_tr hf0 b5, b6⟩
  | inr q =>
    rw [hr] at hq
    obtain ⟨μ2, ν2, rfl, b1, b2, b3, b4⟩ := hq
    refine am_q_call rfl rfl hy rfl ?_
    refine am_q_goto rfl ?_
    refine am_q_return rfl rfl ?_
    exact ⟨_, _, rfl, b1, b2, frMv_tr hf0 b3, b4⟩
