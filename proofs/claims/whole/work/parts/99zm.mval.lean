theorem m_vaE (d n i : Nat) {X : tTp} {μ : am_M2} {ν : am_N2} (hX : tpOk X) (hP : mP μ ν X i) (Q : am_R → Prop) (hk : kd X i = 0) (K : am_w (d + 34) (Option.some FieldType.int) am_g184 52 [some (.ref 133), none] [] (am_hp n μ ν) Q) : am_w (d + 34) (Option.some FieldType.int) am_g184 20 [some (.ref 133), none] [] (am_hp n μ ν) (Q) := by
  have hN := tN_1k hX
  obtain ⟨hT, hG0, hA, hF, hi⟩ := hP
  obtain ⟨t1, t2, t3, t4, t5⟩ := hT i hi
  have hkc := mS_c (kd_le X i)
  refine am_q_aload_n rfl rfl ?_
  refine am_q_gi rfl rfl rfl hF ?_
  refine am_q_zneN rfl (by omega) (fun c_24 => absurd c_24 (by omega)) (fun c_24 => ?_)
  refine am_q_aload_n rfl rfl ?_
  refine am_q_gr rfl rfl rfl ?_
  refine am_q_aload_n rfl rfl ?_
  refine am_q_gi rfl rfl rfl hA ?_
  refine am_q_iald rfl rfl (am_ix_nI (show i < 1002 by omega) (by decide)) t1 ?_
  refine am_q_zeqN rfl (by omega) (fun c_36 => ?_) (fun c_36 => absurd (hkc.1.mpr hk) c_36)
  exact K

theorem m_vaN (d n i : Nat) {X : tTp} {μ : am_M2} {ν : am_N2} (hX : tpOk X) (hP : mP μ ν X i) (Q : am_R → Prop) (hk : ¬ kd X i = 0) (K : am_w (d + 34) (Option.some FieldType.int) am_g184 40 [some (.ref 133), none] [.ref 133] (am_hp n μ ν) Q) : am_w (d + 34) (Option.some FieldType.int) am_g184 20 [some (.ref 133), none] [] (am_hp n μ ν) (Q) := by
  have hN := tN_1k hX
  obtain ⟨hT, hG0, hA, hF, hi⟩ := hP
  obtain ⟨t1, t2, t3, t4, t5⟩ := hT i hi
  have hkc := mS_c (kd_le X i)
  refine am_q_aload_n rfl rfl ?_
  refine am_q_gi rfl rfl rfl hF ?_
  refine am_q_zneN rfl (by omega) (fun c_24 => absurd c_24 (by omega)) (fun c_24 => ?_)
  refine am_q_aload_n rfl rfl ?_
  refine am_q_gr rfl rfl rfl ?_
  refine am_q_aload_n rfl rfl ?_
  refine am_q_gi rfl rfl rfl hA ?_
  refine am_q_iald rfl rfl (am_ix_nI (show i < 1002 by omega) (by decide)) t1 ?_
  refine am_q_zeqN rfl (by omega) (fun c_36 => absurd (hkc.1.mp c_36) hk) (fun c_36 => ?_)
  refine am_q_aload_n rfl rfl ?_
  exact K

theorem m_vaF (d n c : Nat) {μ : am_M2} {ν : am_N2} (hc : 0 < c) (hc2 : c < 2 ^ 20) (hF : μ 133 8 = nI c) (Q : am_R → Prop) (K : am_w (d + 34) (Option.some FieldType.int) am_g184 52 [some (.ref 133), none] [] (am_hp n μ ν) Q) : am_w (d + 34) (Option.some FieldType.int) am_g184 20 [some (.ref 133), none] [] (am_hp n μ ν) (Q) := by
  refine am_q_aload_n rfl rfl ?_
  refine am_q_gi rfl rfl rfl hF ?_
  refine am_q_zneN rfl (by omega) (fun c_24 => ?_) (fun c_24 => absurd c_24 (by omega))
  exact K

theorem m_vaG (d n c : Nat) {μ : am_M2} {ν : am_N2} (hc : 0 < c) (hc2 : c < 2 ^ 20) (hF : μ 133 8 = nI c) (Q : am_R → Prop) (K : am_w (d + 34) (Option.some FieldType.int) am_g184 52 [some (.ref 133), none] [] (am_hp n μ ν) Q) : am_w (d + 34) (Option.some FieldType.int) am_g184 43 [some (.ref 133), none] [] (am_hp n μ ν) (Q) := by
  refine am_q_aload_n rfl rfl ?_
  refine am_q_bipush (v := nI 59) rfl rfl ?_
  refine am_q_call rfl rfl (m_takeSign1 _ 59 n c ν hc (by omega) hF) rfl ?_
  refine am_q_goto rfl ?_
  exact m_vaF d n c hc hc2 hF Q K

theorem m_vaS (d n i : Nat) {X : tTp} {μ : am_M2} {ν : am_N2} (hX : tpOk X) (hP : mP μ ν X i) (Q : am_R → Prop) (K : am_w (d + 34) (Option.some FieldType.int) am_g184 20 [some (.ref 133), none] [] (am_hp n (if isSg X i 59 = true then am_up μ 133 7 (nI (i + 1)) else am_up μ 133 8 (nI (wr X i 1))) ν) Q) : am_w (d + 34) (Option.some FieldType.int) am_g184 43 [some (.ref 133), none] [] (am_hp n μ ν) (Q) := by
  refine am_q_aload_n rfl rfl ?_
  refine am_q_bipush (v := nI 59) rfl rfl ?_
  obtain ⟨μ1, hc1, he1⟩ := m_takeSign0 (d + 32) 59 (by decide) n i ν hX hP
  subst he1
  refine am_q_call rfl rfl (hc1) rfl ?_
  refine am_q_goto rfl ?_
  exact K
