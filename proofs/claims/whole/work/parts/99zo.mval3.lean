theorem m_vaX (d n c : Nat) {μ : am_M2} {ν : am_N2} (hc : 0 < c) (hc2 : c < 2 ^ 20) (hF : μ 133 8 = nI c) : am_w (d + 34) (Option.some FieldType.int) am_g184 52 [some (.ref 133), none] [] (am_hp n μ ν) (fun y => y = (some (.int (nI c)), am_hp n μ ν)) := by
  refine am_q_aload_n rfl rfl ?_
  refine am_q_gi rfl rfl rfl hF ?_
  refine am_q_zleN rfl (by omega) (fun c_56 => absurd c_56 (by omega)) (fun c_56 => ?_)
  refine am_q_aload_n rfl rfl ?_
  refine am_q_gi rfl rfl rfl hF ?_
  refine am_q_ireturn rfl rfl rfl ?_
  rfl
