theorem on_l {D : dft} {p : List Int} (h : D.2.2 = false) : onB D ||| 2 ^ 2 = onB (dL D p) := by
  unfold onB
  show _ = (if 0 < vP D.1 then 1 else 0) + (if 0 < vF D.1 then 2 else 0) + (if true = true then 4 else 0)
  by_cases a : 0 < vP D.1 <;> by_cases b : 0 < vF D.1 <;> simp [h, a, b]
theorem mDf_l {μ μ' : am_M2} {ν : am_N2} {D : dft} {p : List Int} (hD : mDf μ ν D) (h0 : D.2.2 = false) (h54 : μ' 139 54 = nI 0) (h91 : μ' 139 91 = nI (onB D ||| 2 ^ 2)) (hf : ∀ k, k ≠ 54 → k ≠ 91 → μ' 139 k = μ 139 k) (hc : ∀ j (h : j < p.length), μ' 140 (1100 + j) = nI (mEnc p[j])) (hz : μ' 140 (1100 + p.length) = nI 0) (hl : μ' 133 12 = nI (p.length + 1)) (hG : dG D) : mDf μ' ν (dL D p) := by
  have h6 := hG.1.1.1
  have h12 := hG.1.1.2.2.1
  have hm : mF D.1 ≤ 12 := by unfold mF; split <;> omega
  refine ⟨⟨(hf 50 (by omega) (by omega)).trans hD.1.1, (hf 51 (by omega) (by omega)).trans hD.1.2.1, (hf 52 (by omega) (by omega)).trans hD.1.2.2.1, (hf 53 (by omega) (by omega)).trans hD.1.2.2.2.1, by rw [h91, on_l h0]⟩, fun s hs => ?_, fun s hs => (hf _ (by omega) (by omega)).trans (hD.2.2.1 s hs), fun j hj => ?_, Or.inr ⟨rfl, h54, hc, hz, hl⟩, hD.2.2.2.2.2⟩
  · have hs' : s < vN D.1 := hs
    obtain ⟨a, b, c⟩ := hD.2.1 s hs
    exact ⟨(hf _ (by omega) (by omega)).trans a, (hf _ (by omega) (by omega)).trans b, (hf _ (by omega) (by omega)).trans c⟩
  · have hj' : j < mF D.1 := hj
    exact (hf _ (by omega) (by omega)).trans (hD.2.2.2.1 j hj)
theorem m_liL1 (d n i : Nat) {X : tTp} {D : dft} {μ : am_M2} (ν : am_N2) (hX : tpOk X) (hP : mP μ ν X i) (hD : mDf μ ν D) (hG : dG D) (hw : isWd X i 6 = true) (h0 : D.2.2 = true) : am_w (d + 33) (Option.none : Option FieldType) am_g190 0 [some (.ref 133), none, none, none] [] (am_hp n μ ν) (mvQ X n μ ν (pLaw X i D)) := by
  have hN := tN_1k hX
  have hN6 := hG.1.1.1
  have hiN := hP.2.2.2.2
  have hi1 := tN_s hiN (wd_k hw)
  refine am_q_aload_n rfl rfl ?_
  refine am_q_gr rfl rfl rfl ?_
  refine am_q_bipush (v := nI 51) rfl rfl ?_
  refine am_q_iald rfl rfl (by first | exact am_ix_nI (by omega) (by omega) | rfl) hD.1.2.1 ?_
  refine am_q_istore_n [some _, some _, none, none] rfl (Nat.le_of_ble_eq_true rfl) rfl ?_
  refine am_q_aload_n rfl rfl ?_
  refine am_q_iconst (v := nI 1) rfl rfl ?_
  refine am_q_call rfl rfl (m_isWF _ 1 (by decide) n i ν hX hP (wd_u (by decide) (by decide) hw (by decide))) rfl ?_
  refine am_q_if_eqB rfl (fun c_13 => ?_) (fun c_13 => by simp at c_13)
  refine am_q_aload_n rfl rfl ?_
  refine am_q_iconst (v := nI 4) rfl rfl ?_
  refine am_q_call rfl rfl (m_isWF _ 4 (by decide) n i ν hX hP (wd_u (by decide) (by decide) hw (by decide))) rfl ?_
  refine am_q_if_eqB rfl (fun c_28 => ?_) (fun c_28 => by simp at c_28)
  refine am_q_aload_n rfl rfl ?_
  refine am_q_iconst (v := nI 0) rfl rfl ?_
  refine am_q_call rfl rfl (m_isWF _ 0 (by decide) n i ν hX hP (wd_u (by decide) (by decide) hw (by decide))) rfl ?_
  refine am_q_if_eqB rfl (fun c_127 => ?_) (fun c_127 => by simp at c_127)
  refine am_q_aload_n rfl rfl ?_
  refine am_q_iconst (v := nI 5) rfl rfl ?_
  refine am_q_call rfl rfl (m_isWF _ 5 (by decide) n i ν hX hP (wd_u (by decide) (by decide) hw (by decide))) rfl ?_
  refine am_q_if_eqB rfl (fun c_160 => ?_) (fun c_160 => by simp at c_160)
  refine am_q_aload_n rfl rfl ?_
  refine am_q_bipush (v := nI 6) rfl rfl ?_
  refine am_q_call rfl rfl (m_isWT _ 6 (by decide) n i ν hX hP hw) rfl ?_
  refine am_q_if_neB rfl (fun c_184 => ?_) (fun c_184 => by simp at c_184)
  refine am_q_aload_n rfl rfl ?_
  refine am_q_iconst (v := nI 2) rfl rfl ?_
  refine am_q_call rfl rfl (m_once1 _ 2 (by decide) (onB D) on_b.2.2.2 n i ν hX hP hD.1.2.2.2.2 (on_b.2.2.1.trans h0)) rfl ?_
  refine am_q_if_eqB rfl (fun c_200 => ?_) (fun c_200 => by simp at c_200)
  refine am_q_return rfl rfl ?_
  unfold pLaw
  rw [if_pos h0]
  exact mv_wr hX (by decide) (by decide) (frMv_rf μ) (frMvL_rf ν) hP.2.2.1

theorem m_liLE (d n N L : Nat) {μ : am_M2} {ν : am_N2} (hL : μ 133 12 = nI L) (hL2 : L < 1100) (Q : am_R → Prop) (K : Q (none, am_hp n (am_up (am_up μ 140 (1100 + L) (nI (0 + 16 * 0))) 133 12 (nI (L + 1))) ν)) : am_w (d + 33) (Option.none : Option FieldType) am_g190 219 [some (.ref 133), some (.int (nI N)), none, none] [] (am_hp n μ ν) (Q) := by
  refine am_q_aload_n rfl rfl ?_
  refine am_q_iconst (v := nI 0) rfl rfl ?_
  refine am_q_iconst (v := nI 0) rfl rfl ?_
  refine am_q_call rfl rfl (m_emit _ n 0 0 L ν hL hL2) rfl ?_
  refine am_q_return rfl rfl ?_
  exact K

theorem m_liL2 (d n i : Nat) {X : tTp} {D : dft} {μ : am_M2} (ν : am_N2) (hX : tpOk X) (hP : mP μ ν X i) (hD : mDf μ ν D) (hG : dG D) (hw : isWd X i 6 = true) (h0 : D.2.2 = false) : am_w (d + 33) (Option.none : Option FieldType) am_g190 0 [some (.ref 133), none, none, none] [] (am_hp n μ ν) (mvQ X n μ ν (pLaw X i D)) := by
  have hN := tN_1k hX
  have hN6 := hG.1.1.1
  have hiN := hP.2.2.2.2
  have hi1 := tN_s hiN (wd_k hw)
  have h12 : μ 133 12 = nI 0 := by rcases hD.2.2.2.2.1 with ⟨_, _, _, z⟩ | ⟨z, _⟩; exact z; rw [h0] at z; cases z
  refine am_q_aload_n rfl rfl ?_
  refine am_q_gr rfl rfl rfl ?_
  refine am_q_bipush (v := nI 51) rfl rfl ?_
  refine am_q_iald rfl rfl (by first | exact am_ix_nI (by omega) (by omega) | rfl) hD.1.2.1 ?_
  refine am_q_istore_n [some _, some _, none, none] rfl (Nat.le_of_ble_eq_true rfl) rfl ?_
  refine am_q_aload_n rfl rfl ?_
  refine am_q_iconst (v := nI 1) rfl rfl ?_
  refine am_q_call rfl rfl (m_isWF _ 1 (by decide) n i ν hX hP (wd_u (by decide) (by decide) hw (by decide))) rfl ?_
  refine am_q_if_eqB rfl (fun c_13 => ?_) (fun c_13 => by simp at c_13)
  refine am_q_aload_n rfl rfl ?_
  refine am_q_iconst (v := nI 4) rfl rfl ?_
  refine am_q_call rfl rfl (m_isWF _ 4 (by decide) n i ν hX hP (wd_u (by decide) (by decide) hw (by decide))) rfl ?_
  refine am_q_if_eqB rfl (fun c_28 => ?_) (fun c_28 => by simp at c_28)
  refine am_q_aload_n rfl rfl ?_
  refine am_q_iconst (v := nI 0) rfl rfl ?_
  refine am_q_call rfl rfl (m_isWF _ 0 (by decide) n i ν hX hP (wd_u (by decide) (by decide) hw (by decide))) rfl ?_
  refine am_q_if_eqB rfl (fun c_127 => ?_) (fun c_127 => by simp at c_127)
  refine am_q_aload_n rfl rfl ?_
  refine am_q_iconst (v := nI 5) rfl rfl ?_
  refine am_q_call rfl rfl (m_isWF _ 5 (by decide) n i ν hX hP (wd_u (by decide) (by decide) hw (by decide))) rfl ?_
  refine am_q_if_eqB rfl (fun c_160 => ?_) (fun c_160 => by simp at c_160)
  refine am_q_aload_n rfl rfl ?_
  refine am_q_bipush (v := nI 6) rfl rfl ?_
  refine am_q_call rfl rfl (m_isWT _ 6 (by decide) n i ν hX hP hw) rfl ?_
  refine am_q_if_neB rfl (fun c_184 => ?_) (fun c_184 => by simp at c_184)
  refine am_q_aload_n rfl rfl ?_
  refine am_q_iconst (v := nI 2) rfl rfl ?_
  refine am_q_call rfl rfl (m_once0 _ 2 (by decide) (onB D) on_b.2.2.2 n i ν hX hP hD.1.2.2.2.2 (by rw [on_b.2.2.1, h0]; exact Bool.false_ne_true)) rfl ?_
  refine am_q_if_eqB rfl (fun c_200 => by simp at c_200) (fun c_200 => ?_)
  refine am_q_aload_n rfl rfl ?_
  refine am_q_gr rfl rfl rfl ?_
  refine am_q_bipush (v := nI 54) rfl rfl ?_
  refine am_q_aload_n rfl rfl ?_
  refine am_q_gi rfl rfl rfl ((am_up_ne (by omega)).trans ((am_up_ne (by omega)).trans h12)) ?_
  refine am_q_iast rfl rfl (am_ix_nI (show 54 < 100 by omega) (by decide)) rfl ?_
  refine am_q_aload_n rfl rfl ?_
  refine am_q_iconst (v := nI 0) rfl rfl ?_
  have hP1 : mP (am_up (am_up (am_up μ 139 91 (nI (onB D ||| 2 ^ 2))) 133 7 (nI (i + 1))) 139 54 (nI 0)) ν X (i + 1) := mP_c (mP_at hP hi1) (fun k => ⟨by rw [am_up_ne (by omega), am_up_ne (by omega), am_up_ne (by omega), am_up_ne (by omega)], by rw [am_up_ne (by omega), am_up_ne (by omega), am_up_ne (by omega), am_up_ne (by omega)]⟩) (by rw [am_up_ne (by omega), am_up_eq, am_up_eq]) (by rw [am_up_ne (by omega), am_up_ne (by omega), am_up_ne (by omega), am_up_ne (by omega)]) (fun k => ⟨rfl, rfl⟩)
  have hS1 : mSt (am_up (am_up (am_up μ 139 91 (nI (onB D ||| 2 ^ 2))) 133 7 (nI (i + 1))) 139 54 (nI 0)) [] := ⟨(am_up_ne (by omega)).trans ((am_up_ne (by omega)).trans ((am_up_ne (by omega)).trans h12)), fun j hj => by cases hj⟩
  obtain ⟨y, hy, hq⟩ := m_lawC hX n d (i + 1) [] _ ν hP1 hS1 (Nat.zero_le _)
  have hf0 : frMv μ (am_up (am_up (am_up μ 139 91 (nI (onB D ||| 2 ^ 2))) 133 7 (nI (i + 1))) 139 54 (nI 0)) := frMv_tr (frMv_tr (frMv_9 (by omega)) (frMv_3 (by omega))) (frMv_9 (by omega))
  unfold pLaw
  rw [if_neg (by rw [h0]; exact Bool.false_ne_true)]
  cases hr : lv0 X (pPart X 5) (i + 1) [] with
  | inl c =>
    rw [hr] at hq
    obtain ⟨μ2, i2, L2, rfl, b1, b2, b3, b4, b5, b6, b7, b8⟩ := hq
    simp only [List.length_nil] at b7
    refine am_q_call rfl rfl hy rfl ?_
    refine m_liLE d n (vN D.1) L2 b6 (by omega) _ ?_
    exact ⟨_, _, i2, rfl, (am_up_ne (by omega)).trans ((am_up_ne (by omega)).trans b1), b2, b3, (am_up_ne (by omega)).trans ((am_up_ne (by omega)).trans b4), frMv_tr hf0 (frMv_l (frMl_tr b8 frMl_em)), frMvL_rf ν⟩
  | inr q =>
    rw [hr] at hq
    obtain ⟨μ2, rfl, b1, b2, b3⟩ := hq
    obtain ⟨g1, g2, g3⟩ := law_ok hX hi1 hr
    have hl1 := g1.2.1
    refine am_q_call rfl rfl hy rfl ?_
    refine m_liLE d n (vN D.1) q.2.length b2.1 (by omega) _ ?_
    refine ⟨_, _, rfl, mP_e b1, mDf_l hD h0 ?_ ?_ (fun k z1 z2 => ?_) (fun j hj => ?_) ?_ am_up_eq hG, frMv_tr hf0 (frMv_l (frMl_tr b3 frMl_em)), frMvL_rf ν⟩
    · rw [am_up_ne (by omega), am_up_ne (by omega), b3 139 54 (by omega) (by omega)]; exact am_up_eq
    · rw [am_up_ne (by omega), am_up_ne (by omega), b3 139 91 (by omega) (by omega), am_up_ne (by omega), am_up_ne (by omega)]; exact am_up_eq
    · rw [am_up_ne (by omega), am_up_ne (by omega), b3 139 k (by omega) (by omega), am_up_ne (by omega), am_up_ne (by omega), am_up_ne (by omega)]
    · rw [am_up_ne (by omega), am_up_ne (by omega)]; exact b2.2 j hj
    · rw [am_up_ne (by omega)]; exact am_up_eq
