theorem m_soS1 (d n i : Nat) {X : tTp} {D : dft} {μ : am_M2} (ν : am_N2) (hX : tpOk X) (hP : mP μ ν X i) (hD : mDf μ ν D) (hG : dG D) (hw : isWd X i 1 = true) (h6 : 6 ≤ vN D.1) : am_w (d + 4) (Option.none : Option FieldType) am_g192 0 [some (.ref 133), none, none, none, none] [] (am_hp n μ ν) (mvQ X n μ ν (.inl (wr X i 5))) := by
  have hN := tN_1k hX
  have hN6 := hG.1.1.1
  have hiN := hP.2.2.2.2
  have hi1 := tN_s hiN (wd_k hw)
  have hP1 := mP_at hP hi1
  refine am_q_aload_n rfl rfl ?_
  refine am_q_gr rfl rfl rfl ?_
  refine am_q_bipush (v := nI 51) rfl rfl ?_
  refine am_q_iald rfl rfl (by first | exact am_ix_nI (by omega) (by omega) | rfl) hD.1.2.1 ?_
  refine am_q_istore_n [some _, some _, none, none, none] rfl (Nat.le_of_ble_eq_true rfl) rfl ?_
  refine am_q_iload_n rfl rfl ?_
  refine am_q_bipush (v := nI 6) rfl rfl ?_
  refine am_q_ineN rfl (by omega) (by omega) (fun c_11 => absurd c_11 (by omega)) (fun c_11 => ?_)
  refine am_q_aload_n rfl rfl ?_
  refine am_q_iconst (v := nI 5) rfl rfl ?_
  refine am_q_call rfl rfl (m_wrong0 _ 5 n i ν hX hP) rfl ?_
  refine am_q_return rfl rfl ?_
  exact mv_wr hX (by decide) (by decide) (frMv_rf μ) (frMvL_rf ν) hP.2.2.1

theorem m_soS2 (d n i : Nat) {X : tTp} {D : dft} {μ : am_M2} (ν : am_N2) (hX : tpOk X) (hP : mP μ ν X i) (hD : mDf μ ν D) (hG : dG D) (hw : isWd X i 1 = true) (h6 : vN D.1 < 6) (hm : isNm X (i + 1) = false) : am_w (d + 4) (Option.none : Option FieldType) am_g192 0 [some (.ref 133), none, none, none, none] [] (am_hp n μ ν) (mvQ X n μ ν (.inl (wr X (i + 1) 1))) := by
  have hN := tN_1k hX
  have hN6 := hG.1.1.1
  have hiN := hP.2.2.2.2
  have hi1 := tN_s hiN (wd_k hw)
  have hP1 := mP_at hP hi1
  obtain ⟨w0, w1⟩ := wr_b hX (i + 1) (k := 1) (by decide) (by decide)
  have hc1 := m_isName0 (d + 1) n (i + 1) ν hX hP1
  rw [hm] at hc1
  refine am_q_aload_n rfl rfl ?_
  refine am_q_gr rfl rfl rfl ?_
  refine am_q_bipush (v := nI 51) rfl rfl ?_
  refine am_q_iald rfl rfl (by first | exact am_ix_nI (by omega) (by omega) | rfl) hD.1.2.1 ?_
  refine am_q_istore_n [some _, some _, none, none, none] rfl (Nat.le_of_ble_eq_true rfl) rfl ?_
  refine am_q_iload_n rfl rfl ?_
  refine am_q_bipush (v := nI 6) rfl rfl ?_
  refine am_q_ineN rfl (by omega) (by omega) (fun c_11 => ?_) (fun c_11 => absurd c_11 (by omega))
  refine am_q_aload_n rfl rfl ?_
  refine am_q_dupr rfl ?_
  refine am_q_gi rfl rfl rfl hP.2.2.1 ?_
  refine am_q_iconst (v := nI 1) rfl rfl ?_
  refine am_q_iadd rfl (nI_add _ _) ?_
  refine am_q_pi rfl rfl rfl (Or.inl rfl) ?_
  refine am_q_aload_n rfl rfl ?_
  refine am_q_call rfl rfl (hc1) rfl ?_
  refine am_q_if_neB rfl (fun c_34 => by simp at c_34) (fun c_34 => ?_)
  refine am_q_aload_n rfl rfl ?_
  refine am_q_iconst (v := nI 1) rfl rfl ?_
  refine am_q_call rfl rfl (m_wrong0 _ 1 n (i + 1) ν hX hP1) rfl ?_
  refine am_q_goto rfl ?_
  refine am_q_aload_n rfl rfl ?_
  refine am_q_gi rfl rfl rfl am_up_eq ?_
  refine am_q_zleN rfl (by omega) (fun c_64 => absurd c_64 (by omega)) (fun c_64 => ?_)
  refine am_q_return rfl rfl ?_
  exact mv_wr hX (by decide) (by decide) (frMv_3 (by omega)) (frMvL_rf ν) am_up_eq

theorem m_soS3 (d n i : Nat) {X : tTp} {D : dft} {μ : am_M2} (ν : am_N2) (hX : tpOk X) (hP : mP μ ν X i) (hD : mDf μ ν D) (hG : dG D) (hw : isWd X i 1 = true) (h6 : vN D.1 < 6) (hm : isNm X (i + 1) = true) (s : Nat) (hf : fnd D.2.1 (vN D.1) (wd X (i + 1)) = some s) : am_w (d + 4) (Option.none : Option FieldType) am_g192 0 [some (.ref 133), none, none, none, none] [] (am_hp n μ ν) (mvQ X n μ ν (.inl (wr X (i + 1) 3))) := by
  have hN := tN_1k hX
  have hN6 := hG.1.1.1
  have hiN := hP.2.2.2.2
  have hi1 := tN_s hiN (wd_k hw)
  have hP1 := mP_at hP hi1
  have hc1 := m_isName0 (d + 1) n (i + 1) ν hX hP1
  rw [hm] at hc1
  have hc2 := m_nameAt0 (d + 3) n (i + 1) ν hX hP1 6 (vN D.1) (by omega) hN6 hD.2.2.2.2.2 (nm_k hm)
  rw [naF_fnd hD.2.2.2.2.2.2, hf] at hc2
  dsimp only [oI] at hc2
  obtain ⟨w0, w1⟩ := wr_b hX (i + 1) (k := 3) (by decide) (by decide)
  have hsN := (fnd_lt hf).1
  refine am_q_aload_n rfl rfl ?_
  refine am_q_gr rfl rfl rfl ?_
  refine am_q_bipush (v := nI 51) rfl rfl ?_
  refine am_q_iald rfl rfl (by first | exact am_ix_nI (by omega) (by omega) | rfl) hD.1.2.1 ?_
  refine am_q_istore_n [some _, some _, none, none, none] rfl (Nat.le_of_ble_eq_true rfl) rfl ?_
  refine am_q_iload_n rfl rfl ?_
  refine am_q_bipush (v := nI 6) rfl rfl ?_
  refine am_q_ineN rfl (by omega) (by omega) (fun c_11 => ?_) (fun c_11 => absurd c_11 (by omega))
  refine am_q_aload_n rfl rfl ?_
  refine am_q_dupr rfl ?_
  refine am_q_gi rfl rfl rfl hP.2.2.1 ?_
  refine am_q_iconst (v := nI 1) rfl rfl ?_
  refine am_q_iadd rfl (nI_add _ _) ?_
  refine am_q_pi rfl rfl rfl (Or.inl rfl) ?_
  refine am_q_aload_n rfl rfl ?_
  refine am_q_call rfl rfl (hc1) rfl ?_
  refine am_q_if_neB rfl (fun c_34 => ?_) (fun c_34 => by simp at c_34)
  refine am_q_aload_n rfl rfl ?_
  refine am_q_bipush (v := nI 6) rfl rfl ?_
  refine am_q_iload_n rfl rfl ?_
  refine am_q_call rfl rfl (hc2) rfl ?_
  refine am_q_zltN rfl (by omega) (fun c_52 => absurd c_52 (by omega)) (fun c_52 => ?_)
  refine am_q_aload_n rfl rfl ?_
  refine am_q_iconst (v := nI 3) rfl rfl ?_
  refine am_q_call rfl rfl (m_wrong0 _ 3 n (i + 1) ν hX hP1) rfl ?_
  refine am_q_aload_n rfl rfl ?_
  refine am_q_gi rfl rfl rfl am_up_eq ?_
  refine am_q_zleN rfl (by omega) (fun c_64 => absurd c_64 (by omega)) (fun c_64 => ?_)
  refine am_q_return rfl rfl ?_
  exact mv_wr hX (by decide) (by decide) (frMv_3 (by omega)) (frMvL_rf ν) am_up_eq

theorem m_soP (d n i : Nat) {X : tTp} {D : dft} {μ : am_M2} (ν : am_N2) (hX : tpOk X) (hP : mP μ ν X i) (hD : mDf μ ν D) (hG : dG D) (hw : isWd X i 1 = true) (h6 : vN D.1 < 6) (hm : isNm X (i + 1) = true) (hf : fnd D.2.1 (vN D.1) (wd X (i + 1)) = none) (Q : am_R → Prop) (K : am_w (d + 4) (Option.none : Option FieldType) am_g192 96 [some (.ref 133), some (.int (nI (vN D.1))), none, none, none] [] (am_hp n (am_up (am_up μ 133 7 (nI (i + 1))) 133 7 (nI (i + 2))) (am_upL ν 141 (6 + vN D.1) (lN (cw (wd X (i + 1)))))) Q) : am_w (d + 4) (Option.none : Option FieldType) am_g192 0 [some (.ref 133), none, none, none, none] [] (am_hp n μ ν) (Q) := by
  have hN := tN_1k hX
  have hN6 := hG.1.1.1
  have hiN := hP.2.2.2.2
  have hi1 := tN_s hiN (wd_k hw)
  have hP1 := mP_at hP hi1
  have hc1 := m_isName0 (d + 1) n (i + 1) ν hX hP1
  rw [hm] at hc1
  have hc2 := m_nameAt0 (d + 3) n (i + 1) ν hX hP1 6 (vN D.1) (by omega) hN6 hD.2.2.2.2.2 (nm_k hm)
  rw [naF_fnd hD.2.2.2.2.2.2, hf] at hc2
  dsimp only [oI] at hc2
  obtain ⟨t1, t2, t3, t4, t5⟩ := hP1.1 (i + 1) hi1
  refine am_q_aload_n rfl rfl ?_
  refine am_q_gr rfl rfl rfl ?_
  refine am_q_bipush (v := nI 51) rfl rfl ?_
  refine am_q_iald rfl rfl (by first | exact am_ix_nI (by omega) (by omega) | rfl) hD.1.2.1 ?_
  refine am_q_istore_n [some _, some _, none, none, none] rfl (Nat.le_of_ble_eq_true rfl) rfl ?_
  refine am_q_iload_n rfl rfl ?_
  refine am_q_bipush (v := nI 6) rfl rfl ?_
  refine am_q_ineN rfl (by omega) (by omega) (fun c_11 => ?_) (fun c_11 => absurd c_11 (by omega))
  refine am_q_aload_n rfl rfl ?_
  refine am_q_dupr rfl ?_
  refine am_q_gi rfl rfl rfl hP.2.2.1 ?_
  refine am_q_iconst (v := nI 1) rfl rfl ?_
  refine am_q_iadd rfl (nI_add _ _) ?_
  refine am_q_pi rfl rfl rfl (Or.inl rfl) ?_
  refine am_q_aload_n rfl rfl ?_
  refine am_q_call rfl rfl (hc1) rfl ?_
  refine am_q_if_neB rfl (fun c_34 => ?_) (fun c_34 => by simp at c_34)
  refine am_q_aload_n rfl rfl ?_
  refine am_q_bipush (v := nI 6) rfl rfl ?_
  refine am_q_iload_n rfl rfl ?_
  refine am_q_call rfl rfl (hc2) rfl ?_
  refine am_q_if_lt rfl (fun c_52 => ?_) (fun c_52 => absurd (show (-1 : Int32) < 0 by decide) c_52)
  refine am_q_aload_n rfl rfl ?_
  refine am_q_gi rfl rfl rfl hP1.2.2.2.1 ?_
  refine am_q_zleN rfl (by omega) (fun c_64 => ?_) (fun c_64 => absurd c_64 (by omega))
  refine am_q_aload_n rfl rfl ?_
  refine am_q_gr rfl rfl rfl ?_
  refine am_q_bipush (v := nI 6) rfl rfl ?_
  refine am_q_iload_n rfl rfl ?_
  refine am_q_iadd rfl (nI_add _ _) ?_
  refine am_q_aload_n rfl rfl ?_
  refine am_q_gr rfl rfl rfl ?_
  refine am_q_aload_n rfl rfl ?_
  refine am_q_gi rfl rfl rfl am_up_eq ?_
  refine am_q_lald rfl rfl (am_ix_nI (show i + 1 < 1002 by omega) (by decide)) (t3 (nm_k hm)) ?_
  refine am_q_last rfl rfl (am_ix_nI (show 6 + vN D.1 < 12 by omega) (by decide)) ?_
  refine am_q_aload_n rfl rfl ?_
  refine am_q_dupr rfl ?_
  refine am_q_gi rfl rfl rfl am_up_eq ?_
  refine am_q_iconst (v := nI 1) rfl rfl ?_
  refine am_q_iadd rfl (nI_add _ _) ?_
  refine am_q_pi rfl rfl rfl (Or.inl rfl) ?_
  exact K
