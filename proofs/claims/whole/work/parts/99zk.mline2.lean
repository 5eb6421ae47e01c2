theorem m_liS (d n i : Nat) {X : tTp} {D : dft} {μ : am_M2} (ν : am_N2) (hX : tpOk X) (hP : mP μ ν X i) (hD : mDf μ ν D) (hG : dG D) (hw : isWd X i 1 = true) : am_w (d + 5) (Option.none : Option FieldType) am_g190 0 [some (.ref 133), none, none, none] [] (am_hp n μ ν) (mvQ X n μ ν (pSoul X i D)) := by
  refine am_q_aload_n rfl rfl ?_
  refine am_q_gr rfl rfl rfl ?_
  refine am_q_bipush (v := nI 51) rfl rfl ?_
  refine am_q_iald rfl rfl (by first | exact am_ix_nI (by omega) (by omega) | rfl) hD.1.2.1 ?_
  refine am_q_istore_n [some _, some _, none, none] rfl (Nat.le_of_ble_eq_true rfl) rfl ?_
  refine am_q_aload_n rfl rfl ?_
  refine am_q_iconst (v := nI 1) rfl rfl ?_
  refine am_q_call rfl rfl (m_isWT _ 1 (by decide) n i ν hX hP hw) rfl ?_
  refine am_q_if_eqB rfl (fun c_13 => by simp at c_13) (fun c_13 => ?_)
  refine am_q_aload_n rfl rfl ?_
  obtain ⟨y, hy, hq⟩ := m_readSoul d n i ν hX hP hD hG hw
  cases hr : pSoul X i D with
  | inl c =>
    rw [hr] at hq
    obtain ⟨μ2, ν2, i2, rfl, b1, b2, b3, b4, b5, b6⟩ := hq
    refine am_q_call rfl rfl hy rfl ?_
    refine am_q_goto rfl ?_
    refine am_q_return rfl rfl ?_
    exact ⟨_, _, i2, rfl, b1, b2, b3, b4, b5, b6⟩
  | inr q =>
    rw [hr] at hq
    obtain ⟨μ2, ν2, rfl, b1, b2, b3, b4⟩ := hq
    refine am_q_call rfl rfl hy rfl ?_
    refine am_q_goto rfl ?_
    refine am_q_return rfl rfl ?_
    exact ⟨_, _, rfl, b1, b2, b3, b4⟩

theorem m_liX (d n i : Nat) {X : tTp} {D : dft} {μ : am_M2} (ν : am_N2) (hX : tpOk X) (hP : mP μ ν X i) (hD : mDf μ ν D) (hG : dG D) (h0 : isWd X i 0 = false) (h1 : isWd X i 1 = false) (h4 : isWd X i 4 = false) (h5 : isWd X i 5 = false) (h6 : isWd X i 6 = false) : am_w (d + 5) (Option.none : Option FieldType) am_g190 0 [some (.ref 133), none, none, none] [] (am_hp n μ ν) (mvQ X n μ ν (.inl (wr X i 1))) := by
  refine am_q_aload_n rfl rfl ?_
  refine am_q_gr rfl rfl rfl ?_
  refine am_q_bipush (v := nI 51) rfl rfl ?_
  refine am_q_iald rfl rfl (by first | exact am_ix_nI (by omega) (by omega) | rfl) hD.1.2.1 ?_
  refine am_q_istore_n [some _, some _, none, none] rfl (Nat.le_of_ble_eq_true rfl) rfl ?_
  refine am_q_aload_n rfl rfl ?_
  refine am_q_iconst (v := nI 1) rfl rfl ?_
  refine am_q_call rfl rfl (m_isWF _ 1 (by decide) n i ν hX hP h1) rfl ?_
  refine am_q_if_eqB rfl (fun c_13 => ?_) (fun c_13 => by simp at c_13)
  refine am_q_aload_n rfl rfl ?_
  refine am_q_iconst (v := nI 4) rfl rfl ?_
  refine am_q_call rfl rfl (m_isWF _ 4 (by decide) n i ν hX hP h4) rfl ?_
  refine am_q_if_eqB rfl (fun c_28 => ?_) (fun c_28 => by simp at c_28)
  refine am_q_aload_n rfl rfl ?_
  refine am_q_iconst (v := nI 0) rfl rfl ?_
  refine am_q_call rfl rfl (m_isWF _ 0 (by decide) n i ν hX hP h0) rfl ?_
  refine am_q_if_eqB rfl (fun c_127 => ?_) (fun c_127 => by simp at c_127)
  refine am_q_aload_n rfl rfl ?_
  refine am_q_iconst (v := nI 5) rfl rfl ?_
  refine am_q_call rfl rfl (m_isWF _ 5 (by decide) n i ν hX hP h5) rfl ?_
  refine am_q_if_eqB rfl (fun c_160 => ?_) (fun c_160 => by simp at c_160)
  refine am_q_aload_n rfl rfl ?_
  refine am_q_bipush (v := nI 6) rfl rfl ?_
  refine am_q_call rfl rfl (m_isWF _ 6 (by decide) n i ν hX hP h6) rfl ?_
  refine am_q_if_neB rfl (fun c_184 => by simp at c_184) (fun c_184 => ?_)
  refine am_q_aload_n rfl rfl ?_
  refine am_q_iconst (v := nI 1) rfl rfl ?_
  refine am_q_call rfl rfl (m_wrong0 _ 1 n i ν hX hP) rfl ?_
  refine am_q_goto rfl ?_
  refine am_q_return rfl rfl ?_
  exact mv_wr hX (by decide) (by decide) (frMv_rf μ) (frMvL_rf ν) hP.2.2.1

theorem m_readLine (d n i : Nat) {X : tTp} {D : dft} {μ : am_M2} (ν : am_N2) (hX : tpOk X) (hP : mP μ ν X i) (hD : mDf μ ν D) (hG : dG D) : ∃ y, am_run (d + 34) 190 [.ref 133] (am_hp n μ ν) = some y ∧ mvQ X n μ ν (pLine X i D) y := by
  refine am_run_wE (k := 190) (d := d + 33) (vs := [.ref 133]) rfl rfl (Nat.le_of_ble_eq_true rfl) [some (.ref 133), none, none, none] rfl ?_
  unfold pLine
  by_cases h0 : isWd X i 0 = true
  · rw [if_pos h0]
    by_cases z : 0 < vP D.1
    · exact m_liW1 (d + 28) n i ν hX hP hD hG h0 z
    · exact m_liW2 (d + 28) n i ν hX hP hD hG h0 z
  rw [if_neg h0]
  by_cases h1 : isWd X i 1 = true
  · rw [if_pos h1]; exact m_liS (d + 28) n i ν hX hP hD hG h1
  rw [if_neg h1]
  by_cases h4 : isWd X i 4 = true
  · rw [if_pos h4]; exact m_liH (d + 28) n i ν hX hP hD hG h4
  rw [if_neg h4]
  by_cases h5 : isWd X i 5 = true
  · rw [if_pos h5]
    by_cases z : 0 < vF D.1
    · exact m_liF1 (d + 28) n i ν hX hP hD hG h5 z
    · exact m_liF2 (d + 28) n i ν hX hP hD hG h5 z
  rw [if_neg h5]
  by_cases h6 : isWd X i 6 = true
  · rw [if_pos h6]
    cases z : D.2.2 with
    | true => exact m_liL1 d n i ν hX hP hD hG h6 z
    | false => exact m_liL2 d n i ν hX hP hD hG h6 z
  rw [if_neg h6]
  exact m_liX (d + 28) n i ν hX hP hD hG (bf h0) (bf h1) (bf h4) (bf h5) (bf h6)