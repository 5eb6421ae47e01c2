theorem mDl_c {μ μ' : am_M2} {D D' : dft} (h : mDl μ D) (h1 : μ' 139 54 = μ 139 54) (h2 : ∀ k, 1100 ≤ k → μ' 140 k = μ 140 k) (h3 : μ' 133 12 = μ 133 12) (e1 : vL D'.1 = vL D.1) (e2 : D'.2.2 = D.2.2) : mDl μ' D' := by
  unfold mDl
  rw [e1, e2, h1, h3, h2 _ (by omega)]
  rcases h with h | ⟨a, b, c, e⟩
  · exact Or.inl h
  · exact Or.inr ⟨a, b, fun j hj => (h2 _ (by omega)).trans (c j hj), e⟩
theorem on_w {D : dft} {v : Nat} (h : ¬ 0 < vP D.1) (hv : 1 ≤ v) : onB D ||| 2 ^ 0 = onB (dP D v) := by
  unfold onB
  show _ = (if 0 < v then 1 else 0) + (if 0 < vF D.1 then 2 else 0) + (if D.2.2 = true then 4 else 0)
  by_cases b : 0 < vF D.1 <;> cases c : D.2.2 <;> simp [h, b, show 0 < v by omega]
theorem mDf_w {μ μ' : am_M2} {ν : am_N2} {D : dft} {v : Nat} (hD : mDf μ ν D) (h0 : ¬ 0 < vP D.1) (hv : 1 ≤ v) (h50 : μ' 139 50 = nI v) (h91 : μ' 139 91 = nI (onB D ||| 2 ^ 0)) (hf : ∀ a k, ¬ (a = 133 ∧ k ≠ 12) → ¬ (a = 139 ∧ (k = 50 ∨ k = 91)) → μ' a k = μ a k) (hG : dG D) : mDf μ' ν (dP D v) := by
  have h6 := hG.1.1.1
  have h12 := hG.1.1.2.2.1
  have hm : mF D.1 ≤ 12 := by unfold mF; split <;> omega
  refine ⟨⟨h50, (hf 139 51 (by omega) (by omega)).trans hD.1.2.1, (hf 139 52 (by omega) (by omega)).trans hD.1.2.2.1, (hf 139 53 (by omega) (by omega)).trans hD.1.2.2.2.1, by rw [h91, on_w h0 hv]⟩, fun s hs => ?_, fun s hs => (hf 139 _ (by omega) (by omega)).trans (hD.2.2.1 s hs), fun j hj => ?_, mDl_c hD.2.2.2.2.1 (hf 139 54 (by omega) (by omega)) (fun k _ => hf 140 k (by omega) (by omega)) (hf 133 12 (by omega) (by omega)) rfl rfl, hD.2.2.2.2.2⟩
  · have hs' : s < vN D.1 := hs
    obtain ⟨a, b, c⟩ := hD.2.1 s hs
    exact ⟨(hf 139 _ (by omega) (by omega)).trans a, (hf 139 _ (by omega) (by omega)).trans b, (hf 139 _ (by omega) (by omega)).trans c⟩
  · have hj' : j < mF D.1 := hj
    exact (hf 139 _ (by omega) (by omega)).trans (hD.2.2.2.1 j hj)
theorem m_liW1 (d n i : Nat) {X : tTp} {D : dft} {μ : am_M2} (ν : am_N2) (hX : tpOk X) (hP : mP μ ν X i) (hD : mDf μ ν D) (hG : dG D) (hw : isWd X i 0 = true) (h0 : 0 < vP D.1) : am_w (d + 5) (Option.none : Option FieldType) am_g190 0 [some (.ref 133), none, none, none] [] (am_hp n μ ν) (mvQ X n μ ν (pWall X i D)) := by
  have hN := tN_1k hX
  have hN6 := hG.1.1.1
  have hiN := hP.2.2.2.2
  refine am_q_aload_n rfl rfl ?_
  refine am_q_gr rfl rfl rfl ?_
  refine am_q_bipush (v := nI 51) rfl rfl ?_
  refine am_q_iald rfl rfl (by first | exact am_ix_nI (by omega) (by omega) | rfl) hD.1.2.1 ?_
  refine am_q_istore_n [some _, some _, none, none] rfl (Nat.le_of_ble_eq_true rfl) rfl ?_
  refine am_q_aload_n rfl rfl ?_
  refine am_q_iconst (v := nI 1) rfl rfl ?_
  refine am_q_call rfl rfl (m_isWF _ 1 (by decide) n i ν hX hP (wd_u (by decide) (by decide) hw (by decide))) rfl ?_
  refine am_q_if_eqB rfl (fun c_13 => ?_) (fun c_13 => by simp at c_13)
  refine am_q_aload_n rfl rfl ?_
  refine am_q_iconst (v := nI 4) rfl rfl ?_
  refine am_q_call rfl rfl (m_isWF _ 4 (by decide) n i ν hX hP (wd_u (by decide) (by decide) hw (by decide))) rfl ?_
  refine am_q_if_eqB rfl (fun c_28 => ?_) (fun c_28 => by simp at c_28)
  refine am_q_aload_n rfl rfl ?_
  refine am_q_iconst (v := nI 0) rfl rfl ?_
  refine am_q_call rfl rfl (m_isWT _ 0 (by decide) n i ν hX hP hw) rfl ?_
  refine am_q_if_eqB rfl (fun c_127 => by simp at c_127) (fun c_127 => ?_)
  refine am_q_aload_n rfl rfl ?_
  refine am_q_iconst (v := nI 0) rfl rfl ?_
  refine am_q_call rfl rfl (m_once1 _ 0 (by decide) (onB D) on_b.2.2.2 n i ν hX hP hD.1.2.2.2.2 (on_b.1.trans (decide_eq_true h0))) rfl ?_
  refine am_q_if_eqB rfl (fun c_135 => ?_) (fun c_135 => by simp at c_135)
  refine am_q_return rfl rfl ?_
  unfold pWall
  rw [if_pos h0]
  exact mv_wr hX (by decide) (by decide) (frMv_rf μ) (frMvL_rf ν) hP.2.2.1

theorem m_liW2 (d n i : Nat) {X : tTp} {D : dft} {μ : am_M2} (ν : am_N2) (hX : tpOk X) (hP : mP μ ν X i) (hD : mDf μ ν D) (hG : dG D) (hw : isWd X i 0 = true) (h0 : ¬ 0 < vP D.1) : am_w (d + 5) (Option.none : Option FieldType) am_g190 0 [some (.ref 133), none, none, none] [] (am_hp n μ ν) (mvQ X n μ ν (pWall X i D)) := by
  have hN := tN_1k hX
  have hN6 := hG.1.1.1
  have hiN := hP.2.2.2.2
  refine am_q_aload_n rfl rfl ?_
  refine am_q_gr rfl rfl rfl ?_
  refine am_q_bipush (v := nI 51) rfl rfl ?_
  refine am_q_iald rfl rfl (by first | exact am_ix_nI (by omega) (by omega) | rfl) hD.1.2.1 ?_
  refine am_q_istore_n [some _, some _, none, none] rfl (Nat.le_of_ble_eq_true rfl) rfl ?_
  refine am_q_aload_n rfl rfl ?_
  refine am_q_iconst (v := nI 1) rfl rfl ?_
  refine am_q_call rfl rfl (m_isWF _ 1 (by decide) n i ν hX hP (wd_u (by decide) (by decide) hw (by decide))) rfl ?_
  refine am_q_if_eqB rfl (fun c_13 => ?_) (fun c_13 => by simp at c_13)
  refine am_q_aload_n rfl rfl ?_
  refine am_q_iconst (v := nI 4) rfl rfl ?_
  refine am_q_call rfl rfl (m_isWF _ 4 (by decide) n i ν hX hP (wd_u (by decide) (by decide) hw (by decide))) rfl ?_
  refine am_q_if_eqB rfl (fun c_28 => ?_) (fun c_28 => by simp at c_28)
  refine am_q_aload_n rfl rfl ?_
  refine am_q_iconst (v := nI 0) rfl rfl ?_
  refine am_q_call rfl rfl (m_isWT _ 0 (by decide) n i ν hX hP hw) rfl ?_
  refine am_q_if_eqB rfl (fun c_127 => by simp at c_127) (fun c_127 => ?_)
  refine am_q_aload_n rfl rfl ?_
  refine am_q_iconst (v := nI 0) rfl rfl ?_
  have hi1 := tN_s hiN (wd_k hw)
  have hP1 : mP (am_up (am_up μ 139 91 (nI (onB D ||| 2 ^ 0))) 133 7 (nI (i + 1))) ν X (i + 1) := mP_at (mP_c hP (fun k => ⟨am_up_ne (by omega), am_up_ne (by omega)⟩) (am_up_ne (by omega)) (am_up_ne (by omega)) (fun k => ⟨rfl, rfl⟩)) hi1
  refine am_q_call rfl rfl (m_once0 _ 0 (by decide) (onB D) on_b.2.2.2 n i ν hX hP hD.1.2.2.2.2 (by rw [on_b.1]; exact fun z => h0 (of_decide_eq_true z))) rfl ?_
  refine am_q_if_eqB rfl (fun c_135 => by simp at c_135) (fun c_135 => ?_)
  refine am_q_aload_n rfl rfl ?_
  refine am_q_gr rfl rfl rfl ?_
  refine am_q_bipush (v := nI 50) rfl rfl ?_
  refine am_q_aload_n rfl rfl ?_
  refine am_q_iconst (v := nI 1) rfl rfl ?_
  refine am_q_bipush (v := nI 8) rfl rfl ?_
  have hpn : pNumI X (i + 1) 1 (nI 8) = pNum X (i + 1) 1 8 := pNumI_N (by decide)
  refine am_q_call rfl rfl (m_takeNum0 _ 1 (by decide) (nI 8) n (i + 1) ν hX hP1) rfl ?_
  refine am_q_iast rfl rfl (by first | exact am_ix_nI (by omega) (by omega) | rfl) rfl ?_
  refine am_q_goto rfl ?_
  refine am_q_return rfl rfl ?_
  unfold pWall
  rw [if_neg h0]
  rw [hpn]
  cases hr : pNum X (i + 1) 1 8 with
  | inl c =>
    have hc : c = wr X (i + 1) 1 ∨ c = wr X (i + 1) 4 := by unfold pNum at hr; split at hr; exact Or.inl (by cases hr; rfl); split at hr; exact Or.inr (by cases hr; rfl); cases hr
    have hb : 0 < c ∧ c < 2 ^ 20 := by rcases hc with rfl | rfl; exact wr_b hX _ (by decide) (by decide); exact wr_b hX _ (by decide) (by decide)
    exact ⟨_, _, i + 1, rfl, (am_up_ne (by omega)).trans am_up_eq, hb.1, hb.2, (am_up_ne (by omega)).trans ((am_up_ne (by omega)).trans am_up_eq), frMv_tr (frMv_tr (frMv_tr (frMv_9 (by omega)) (frMv_3 (by omega))) (frMv_3 (by omega))) (frMv_9 (by omega)), frMvL_rf ν⟩
  | inr v =>
    have hv := pN_in hr
    have hk := pN_k hr
    have hi2 := tN_s hi1 (nz hk (by decide))
    refine ⟨_, _, rfl, mP_c (mP_at hP1 hi2) (fun k => ⟨am_up_ne (by omega), am_up_ne (by omega)⟩) (am_up_ne (by omega)) (am_up_ne (by omega)) (fun k => ⟨rfl, rfl⟩), mDf_w hD h0 hv.1 am_up_eq ?_ (fun a k z1 z2 => ?_) hG, frMv_tr (frMv_tr (frMv_tr (frMv_9 (by omega)) (frMv_3 (by omega))) (frMv_3 (by omega))) (frMv_9 (by omega)), frMvL_rf ν⟩
    · exact (am_up_ne (by omega)).trans ((am_up_ne (by omega)).trans ((am_up_ne (by omega)).trans am_up_eq))
    · exact (am_up_ne (by omega)).trans ((am_up_ne (by omega)).trans ((am_up_ne (by omega)).trans (am_up_ne (by omega))))
