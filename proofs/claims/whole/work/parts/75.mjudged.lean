theorem m_startL (d n b : Nat) (hb : b + 13 ≤ 836) (μ : am_M2) (ν : am_N2) : ∀ (m j : Nat) (μ1 : am_M2), j + m = 6 → frB b μ μ1 ∧ μ1 145 b = nI 0 ∧ (∀ s, s < j → μ1 145 (b + 1 + s) = nI 0 ∧ μ1 145 (b + 7 + s) = -1) → am_w (d + 0) (Option.none : Option FieldType) am_g183 9 [some (.ref 133), some (.int (nI b)), some (.int (nI j))] [] (am_hp n μ1 ν) (fun y => ∃ μ', y = (none, am_hp n μ' ν) ∧ mWall μ' b w0 ∧ frB b μ μ') := by
  intro m
  induction m with
  | zero =>
    intro j μ1 hj hinv
    refine am_q_iload_n rfl rfl ?_
    refine am_q_bipush (v := nI 6) rfl rfl ?_
    refine am_q_igeN rfl (by omega) (by omega) (fun c_12 => ?_) (fun c_12 => absurd c_12 (by omega))
    refine am_q_return rfl rfl ?_
    exact ⟨_, rfl, ⟨hinv.2.1, fun s hs => hinv.2.2 s (by omega)⟩, hinv.1⟩
  | succ m ih =>
    intro j μ1 hj hinv
    refine am_q_iload_n rfl rfl ?_
    refine am_q_bipush (v := nI 6) rfl rfl ?_
    refine am_q_igeN rfl (by omega) (by omega) (fun c_12 => absurd c_12 (by omega)) (fun c_12 => ?_)
    refine am_q_aload_n rfl rfl ?_
    refine am_q_gr rfl rfl rfl ?_
    refine am_q_iload_n rfl rfl ?_
    refine am_q_iconst (v := nI 1) rfl rfl ?_
    refine am_q_iadd rfl (nI_add _ _) ?_
    refine am_q_iload_n rfl rfl ?_
    refine am_q_iadd rfl (nI_add _ _) ?_
    refine am_q_iconst (v := nI 0) rfl rfl ?_
    refine am_q_iast rfl rfl (am_ix_nI (show b + 1 + j < 836 by omega) (by decide)) rfl ?_
    refine am_q_aload_n rfl rfl ?_
    refine am_q_gr rfl rfl rfl ?_
    refine am_q_iload_n rfl rfl ?_
    refine am_q_bipush (v := nI 7) rfl rfl ?_
    refine am_q_iadd rfl (nI_add _ _) ?_
    refine am_q_iload_n rfl rfl ?_
    refine am_q_iadd rfl (nI_add _ _) ?_
    refine am_q_iconst (v := -1) rfl rfl ?_
    refine am_q_iast rfl rfl (am_ix_nI (show b + 7 + j < 836 by omega) (by decide)) rfl ?_
    refine am_q_iinc [some _, some _, some _] rfl (c := nI 1) rfl rfl (Nat.le_of_ble_eq_true rfl) (nI_add _ _) rfl ?_
    refine am_q_goto rfl ?_
    exact ih (j + 1) _ (by omega) ⟨frB_tr hinv.1 (frB_up2 (by omega)), by rw [am_up_ne (by omega), am_up_ne (by omega)]; exact hinv.2.1, fun s hs => by
              by_cases z : s = j
              · subst z; rw [am_up_ne (by omega), am_up_eq, am_up_eq]; exact ⟨rfl, rfl⟩
              · rw [am_up_ne (by omega), am_up_ne (by omega), am_up_ne (by omega), am_up_ne (by omega)]; exact hinv.2.2 s (by omega)⟩

/-- StoneSecretsModel.starts(I)V -/
theorem m_starts (d : Nat) (n b : Nat) (hb : b + 13 ≤ 836) (μ : am_M2) (ν : am_N2) : ∃ (μ' : am_M2), am_run (d + 1) 183 [.ref 133, .int (nI b)] (am_hp n μ ν) = some (none, am_hp n μ' ν) ∧ mWall μ' b w0 ∧ frB b μ μ' := by
  have key : ∃ r, am_run (d + 1) 183 [.ref 133, .int (nI b)] (am_hp n μ ν) = some r ∧ ∃ (μ' : am_M2), r = (none, am_hp n μ' ν) ∧ mWall μ' b w0 ∧ frB b μ μ' := am_run_wE (k := 183) (d := d + 0) rfl rfl (Nat.le_of_ble_eq_true rfl) [some (.ref 133), some (.int (nI b)), none] rfl (by
    refine am_q_aload_n rfl rfl ?_
    refine am_q_gr rfl rfl rfl ?_
    refine am_q_iload_n rfl rfl ?_
    refine am_q_iconst (v := nI 0) rfl rfl ?_
    refine am_q_iast rfl rfl (am_ix_nI (show b < 836 by omega) (by decide)) rfl ?_
    refine am_q_iconst (v := nI 0) rfl rfl ?_
    refine am_q_istore_n [some _, some _, some _] rfl (Nat.le_of_ble_eq_true rfl) rfl ?_
    exact m_startL d n b hb μ ν 6 0 _ (by omega) ⟨frB_up (by omega) (by omega), am_up_eq, fun s hs => by omega⟩)
  obtain ⟨r, h1, μ', h2, h3⟩ := key
  exact ⟨μ', by rw [h1, h2], h3⟩

theorem m_jud0 (d : Nat) (n : Nat) {V : sVal} {T : sWall} {μ : am_M2} (ν : am_N2) (hV : mVal μ V) (hO : vOk V) (hT : mWall μ 798 T) (hI : sI (vN V) (vP V) T.1 T.2.1) (ht : T.2.2 < 2 ^ 30) (j w : Nat) (wr ou : Option Nat) (hwr : ∀ x, wr = some x → x < 2 ^ 31) (Q : am_R → Prop) (sv pv : Int32) (o8 : Option Value) (Ky : dCan V T 0 (-1) (-1) = true → ∀ μ2 o8, fr μ μ2 → mWall μ2 798 (dDo V T 0 (-1) (-1)) → am_w (d + 6) (Option.some FieldType.int) am_g246 234 [some (.ref 133), some (.int (nI w)), some (.int (sn_place wr)), some (.int (sn_place ou)), some (.int (nI j)), some (.int (nI 0)), some (.int sv), some (.int pv), o8] [] (am_hp n μ2 ν) Q) (Kn1 : dCan V T 0 (-1) (-1) = false → wr = none → ∀ o8, am_w (d + 6) (Option.some FieldType.int) am_g246 234 [some (.ref 133), some (.int (nI w)), some (.int (nI j)), some (.int (sn_place ou)), some (.int (nI j)), some (.int (nI 0)), some (.int sv), some (.int pv), o8] [] (am_hp n μ ν) Q) (Kn2 : dCan V T 0 (-1) (-1) = false → ¬ wr = none → ∀ o8, am_w (d + 6) (Option.some FieldType.int) am_g246 234 [some (.ref 133), some (.int (nI w)), some (.int (sn_place wr)), some (.int (sn_place ou)), some (.int (nI j)), some (.int (nI 0)), some (.int sv), some (.int pv), o8] [] (am_hp n μ ν) Q) : am_w (d + 6) (Option.some FieldType.int) am_g246 81 [some (.ref 133), some (.int (nI w)), some (.int (sn_place wr)), some (.int (sn_place ou)), some (.int (nI j)), some (.int (nI 0)), some (.int sv), some (.int pv), o8] [] (am_hp n μ ν) (Q) := by
  refine am_q_iload rfl rfl ?_
  refine am_q_zeqN rfl (by omega) (fun c_83 => ?_) (fun c_83 => absurd c_83 (by omega))
  refine am_q_iconst (v := nI 1) rfl rfl ?_
  refine am_q_goto rfl ?_
  refine am_q_istore [some _, some _, some _, some _, some _, some _, some _, some _, some _] rfl (Nat.le_of_ble_eq_true rfl) rfl ?_
  refine am_q_iload rfl rfl ?_
  refine am_q_zneN rfl (by omega) (fun c_164 => ?_) (fun c_164 => absurd c_164 (by omega))
  refine am_q_iload_n rfl rfl ?_
  refine am_q_istore_n [some _, some _, some _, some _, some _, some _, some _, some _, some _] rfl (Nat.le_of_ble_eq_true rfl) rfl ?_
  refine am_q_iload rfl rfl ?_
  refine am_q_zneN rfl (by omega) (fun c_180 => absurd c_180 (by omega)) (fun c_180 => ?_)
  refine am_q_aload_n rfl rfl ?_
  refine am_q_sipush (v := nI 798) rfl rfl ?_
  obtain ⟨μ2, hc2, hf2, hW2⟩ := m_goesT _ n ν hV hO hT hI ht
  refine am_q_call rfl rfl (hc2) rfl ?_
  refine am_q_popi rfl ?_
  refine am_q_goto rfl ?_
  exact Ky rfl μ2 _ hf2 hW2

theorem m_jud1 (d : Nat) (n : Nat) {V : sVal} {T : sWall} {μ : am_M2} (ν : am_N2) (hV : mVal μ V) (hO : vOk V) (hT : mWall μ 798 T) (hI : sI (vN V) (vP V) T.1 T.2.1) (ht : T.2.2 < 2 ^ 30) (j w : Nat) (wr ou : Option Nat) (hwr : ∀ x, wr = some x → x < 2 ^ 31) (Q : am_R → Prop) (k : Nat) (hk : k < vN V) (pv : Int32) (o8 : Option Value) (Ky : dCan V T 1 (nI k) (-1) = true → ∀ μ2 o8, fr μ μ2 → mWall μ2 798 (dDo V T 1 (nI k) (-1)) → am_w (d + 6) (Option.some FieldType.int) am_g246 234 [some (.ref 133), some (.int (nI w)), some (.int (sn_place wr)), some (.int (sn_place ou)), some (.int (nI j)), some (.int (nI 1)), some (.int (nI k)), some (.int pv), o8] [] (am_hp n μ2 ν) Q) (Kn1 : dCan V T 1 (nI k) (-1) = false → wr = none → ∀ o8, am_w (d + 6) (Option.some FieldType.int) am_g246 234 [some (.ref 133), some (.int (nI w)), some (.int (nI j)), some (.int (sn_place ou)), some (.int (nI j)), some (.int (nI 1)), some (.int (nI k)), some (.int pv), o8] [] (am_hp n μ ν) Q) (Kn2 : dCan V T 1 (nI k) (-1) = false → ¬ wr = none → ∀ o8, am_w (d + 6) (Option.some FieldType.int) am_g246 234 [some (.ref 133), some (.int (nI w)), some (.int (sn_place wr)), some (.int (sn_place ou)), some (.int (nI j)), some (.int (nI 1)), some (.int (nI k)), some (.int pv), o8] [] (am_hp n μ ν) Q) : am_w (d + 6) (Option.some FieldType.int) am_g246 81 [some (.ref 133), some (.int (nI w)), some (.int (sn_place wr)), some (.int (sn_place ou)), some (.int (nI j)), some (.int (nI 1)), some (.int (nI k)), some (.int pv), o8] [] (am_hp n μ ν) (Q) := by
  have h6 := hO.1.1
  have hP8 := hO.1.2.1
  have h8 := sI_8 hO hI
  have k4 := (hI k (by omega)).1
  have hix : am_ix (nI k) (vN V) = some k := am_ix_nI hk (by omega)
  refine am_q_iload rfl rfl ?_
  refine am_q_zeqN rfl (by omega) (fun c_83 => absurd c_83 (by omega)) (fun c_83 => ?_)
  refine am_q_iload rfl rfl ?_
  refine am_q_iconst (v := nI 1) rfl rfl ?_
  refine am_q_ineN rfl (by omega) (by omega) (fun c_89 => absurd c_89 (by omega)) (fun c_89 => ?_)
  refine am_q_aload_n rfl rfl ?_
  refine am_q_sipush (v := nI 798) rfl rfl ?_
  refine am_q_iload rfl rfl ?_
  refine am_q_call rfl rfl (m_isNowW _ n ν 798 (by decide) hT k (by omega)) rfl ?_
  refine am_q_zneN rfl (by omega) (fun c_101 => ?_) (fun c_101 => ?_)
  · refine am_q_iconst (v := nI 0) rfl rfl ?_
    refine am_q_istore [some _, some _, some _, some _, some _, some _, some _, some _, some _] rfl (Nat.le_of_ble_eq_true rfl) rfl ?_
    refine am_q_iload rfl rfl ?_
    refine am_q_zneN rfl (by omega) (fun c_164 => absurd c_164 (by omega)) (fun c_164 => ?_)
    refine am_q_iload_n rfl rfl ?_
    refine am_q_if_ge rfl (fun c_168 => ?_) (fun c_168 => ?_)
    · obtain ⟨wi, hwi⟩ := sn_place_ge hwr c_168
      have hwn : ¬ wr = none := by rw [hwi]; exact fun z => by cases z
      refine am_q_iload_n rfl rfl ?_
      refine am_q_istore_n [some _, some _, some _, some _, some _, some _, some _, some _, some _] rfl (Nat.le_of_ble_eq_true rfl) rfl ?_
      refine am_q_iload rfl rfl ?_
      refine am_q_zneN rfl (by omega) (fun c_180 => ?_) (fun c_180 => absurd c_180 (by omega))
      refine am_q_iload rfl rfl ?_
      refine am_q_zeqN rfl (by omega) (fun c_196 => ?_) (fun c_196 => absurd c_196 (by omega))
      refine am_q_iload rfl rfl ?_
      refine am_q_zeqN rfl (by omega) (fun c_221 => ?_) (fun c_221 => absurd c_221 (by omega))
      first | exact Ky (by show sIs (vN V) T.1 (nI k) 0 = true; rw [sIs_nI hk (by omega)]; exact decide_eq_true c_101) _ _ (fr_B (frB_up2 (by omega))) (by rw [dDo1 hix (Or.inl rfl)]; exact mWall_set (by omega) rfl rfl hT) | exact Kn2 (by show sIs (vN V) T.1 (nI k) 0 = false; rw [sIs_nI hk (by omega)]; exact decide_eq_false c_101) hwn _ | exact Kn1 (by show sIs (vN V) T.1 (nI k) 0 = false; rw [sIs_nI hk (by omega)]; exact decide_eq_false c_101) hwn _
    · have hwn := sn_place_nge hwr c_168
      refine am_q_iload rfl rfl ?_
      refine am_q_goto rfl ?_
      refine am_q_istore_n [some _, some _, some _, some _, some _, some _, some _, some _, some _] rfl (Nat.le_of_ble_eq_true rfl) rfl ?_
      refine am_q_iload rfl rfl ?_
      refine am_q_zneN rfl (by omega) (fun c_180 => ?_) (fun c_180 => absurd c_180 (by omega))
      refine am_q_iload rfl rfl ?_
      refine am_q_zeqN rfl (by omega) (fun c_196 => ?_) (fun c_196 => absurd c_196 (by omega))
      refine am_q_iload rfl rfl ?_
      refine am_q_zeqN rfl (by omega) (fun c_221 => ?_) (fun c_221 => absurd c_221 (by omega))
      first | exact Ky (by show sIs (vN V) T.1 (nI k) 0 = true; rw [sIs_nI hk (by omega)]; exact decide_eq_true c_101) _ _ (fr_B (frB_up2 (by omega))) (by rw [dDo1 hix (Or.inl rfl)]; exact mWall_set (by omega) rfl rfl hT) | exact Kn2 (by show sIs (vN V) T.1 (nI k) 0 = false; rw [sIs_nI hk (by omega)]; exact decide_eq_false c_101) hwn _ | exact Kn1 (by show sIs (vN V) T.1 (nI k) 0 = false; rw [sIs_nI hk (by omega)]; exact decide_eq_false c_101) hwn _
  · refine am_q_goto rfl ?_
    refine am_q_iconst (v := nI 1) rfl rfl ?_
    refine am_q_goto rfl ?_
    refine am_q_istore [some _, some _, some _, some _, some _, some _, some _, some _, some _] rfl (Nat.le_of_ble_eq_true rfl) rfl ?_
    refine am_q_iload rfl rfl ?_
    refine am_q_zneN rfl (by omega) (fun c_164 => ?_) (fun c_164 => absurd c_164 (by omega))
    refine am_q_iload_n rfl rfl ?_
    refine am_q_istore_n [some _, some _, some _, some _, some _, some _, some _, some _, some _] rfl (Nat.le_of_ble_eq_true rfl) rfl ?_
    refine am_q_iload rfl rfl ?_
    refine am_q_zneN rfl (by omega) (fun c_180 => ?_) (fun c_180 => absurd c_180 (by omega))
    refine am_q_iload rfl rfl ?_
    refine am_q_zeqN rfl (by omega) (fun c_196 => absurd c_196 (by omega)) (fun c_196 => ?_)
    refine am_q_iload rfl rfl ?_
    refine am_q_iconst (v := nI 2) rfl rfl ?_
    refine am_q_ineN rfl (by omega) (by omega) (fun c_202 => ?_) (fun c_202 => absurd c_202 (by omega))
    refine am_q_iload rfl rfl ?_
    refine am_q_zeqN rfl (by omega) (fun c_221 => absurd c_221 (by omega)) (fun c_221 => ?_)
    refine am_q_aload_n rfl rfl ?_
    refine am_q_sipush (v := nI 798) rfl rfl ?_
    refine am_q_iload rfl rfl ?_
    refine am_q_iconst (v := nI 1) rfl rfl ?_
    refine am_q_call rfl rfl (m_leave _ n 798 k (by decide) (by omega) _ _ _) rfl ?_
    first | exact Ky (by show sIs (vN V) T.1 (nI k) 0 = true; rw [sIs_nI hk (by omega)]; exact decide_eq_true c_101) _ _ (fr_B (frB_up2 (by omega))) (by rw [dDo1 hix (Or.inl rfl)]; exact mWall_set (by omega) rfl rfl hT) | exact Kn2 (by show sIs (vN V) T.1 (nI k) 0 = false; rw [sIs_nI hk (by omega)]; exact decide_eq_false c_101) hwn _ | exact Kn1 (by show sIs (vN V) T.1 (nI k) 0 = false; rw [sIs_nI hk (by omega)]; exact decide_eq_false c_101) hwn _

theorem m_jud3 (d : Nat) (n : Nat) {V : sVal} {T : sWall} {μ : am_M2} (ν : am_N2) (hV : mVal μ V) (hO : vOk V) (hT : mWall μ 798 T) (hI : sI (vN V) (vP V) T.1 T.2.1) (ht : T.2.2 < 2 ^ 30) (j w : Nat) (wr ou : Option Nat) (hwr : ∀ x, wr = some x → x < 2 ^ 31) (Q : am_R → Prop) (k : Nat) (hk : k < vN V) (pv : Int32) (o8 : Option Value) (Ky : dCan V T 3 (nI k) (-1) = true → ∀ μ2 o8, fr μ μ2 → mWall μ2 798 (dDo V T 3 (nI k) (-1)) → am_w (d + 6) (Option.some FieldType.int) am_g246 234 [some (.ref 133), some (.int (nI w)), some (.int (sn_place wr)), some (.int (sn_place ou)), some (.int (nI j)), some (.int (nI 3)), some (.int (nI k)), some (.int pv), o8] [] (am_hp n μ2 ν) Q) (Kn1 : dCan V T 3 (nI k) (-1) = false → wr = none → ∀ o8, am_w (d + 6) (Option.some FieldType.int) am_g246 234 [some (.ref 133), some (.int (nI w)), some (.int (nI j)), some (.int (sn_place ou)), some (.int (nI j)), some (.int (nI 3)), some (.int (nI k)), some (.int pv), o8] [] (am_hp n μ ν) Q) (Kn2 : dCan V T 3 (nI k) (-1) = false → ¬ wr = none → ∀ o8, am_w (d + 6) (Option.some FieldType.int) am_g246 234 [some (.ref 133), some (.int (nI w)), some (.int (sn_place wr)), some (.int (sn_place ou)), some (.int (nI j)), some (.int (nI 3)), some (.int (nI k)), some (.int pv), o8] [] (am_hp n μ ν) Q) : am_w (d + 6) (Option.some FieldType.int) am_g246 81 [some (.ref 133), some (.int (nI w)), some (.int (sn_place wr)), some (.int (sn_place ou)), some (.int (nI j)), some (.int (nI 3)), some (.int (nI k)), some (.int pv), o8] [] (am_hp n μ ν) (Q) := by
  have h6 := hO.1.1
  have hP8 := hO.1.2.1
  have h8 := sI_8 hO hI
  have k4 := (hI k (by omega)).1
  have hix : am_ix (nI k) (vN V) = some k := am_ix_nI hk (by omega)
  refine am_q_iload rfl rfl ?_
  refine am_q_zeqN rfl (by omega) (fun c_83 => absurd c_83 (by omega)) (fun c_83 => ?_)
  refine am_q_iload rfl rfl ?_
  refine am_q_iconst (v := nI 1) rfl rfl ?_
  refine am_q_ineN rfl (by omega) (by omega) (fun c_89 => ?_) (fun c_89 => absurd c_89 (by omega))
  refine am_q_iload rfl rfl ?_
  refine am_q_iconst (v := nI 2) rfl rfl ?_
  refine am_q_ineN rfl (by omega) (by omega) (fun c_110 => ?_) (fun c_110 => absurd c_110 (by omega))
  refine am_q_aload_n rfl rfl ?_
  refine am_q_sipush (v := nI 798) rfl rfl ?_
  refine am_q_iload rfl rfl ?_
  refine am_q_call rfl rfl (m_isNowW _ n ν 798 (by decide) hT k (by omega)) rfl ?_
  refine am_q_iconst (v := nI 2) rfl rfl ?_
  refine am_q_ineN rfl (by omega) (by omega) (fun c_152 => ?_) (fun c_152 => ?_)
  · refine am_q_iconst (v := nI 0) rfl rfl ?_
    refine am_q_istore [some _, some _, some _, some _, some _, some _, some _, some _, some _] rfl (Nat.le_of_ble_eq_true rfl) rfl ?_
    refine am_q_iload rfl rfl ?_
    refine am_q_zneN rfl (by omega) (fun c_164 => absurd c_164 (by omega)) (fun c_164 => ?_)
    refine am_q_iload_n rfl rfl ?_
    refine am_q_if_ge rfl (fun c_168 => ?_) (fun c_168 => ?_)
    · obtain ⟨wi, hwi⟩ := sn_place_ge hwr c_168
      have hwn : ¬ wr = none := by rw [hwi]; exact fun z => by cases z
      refine am_q_iload_n rfl rfl ?_
      refine am_q_istore_n [some _, some _, some _, some _, some _, some _, some _, some _, some _] rfl (Nat.le_of_ble_eq_true rfl) rfl ?_
      refine am_q_iload rfl rfl ?_
      refine am_q_zneN rfl (by omega) (fun c_180 => ?_) (fun c_180 => absurd c_180 (by omega))
      refine am_q_iload rfl rfl ?_
      refine am_q_zeqN rfl (by omega) (fun c_196 => ?_) (fun c_196 => absurd c_196 (by omega))
      refine am_q_iload rfl rfl ?_
      refine am_q_zeqN rfl (by omega) (fun c_221 => ?_) (fun c_221 => absurd c_221 (by omega))
      first | exact Ky (by show sIs (vN V) T.1 (nI k) 2 = true; rw [sIs_nI hk (by omega)]; exact decide_eq_true c_152) _ _ (fr_B (frB_up2 (by omega))) (by rw [dDo1 hix (Or.inr rfl)]; exact mWall_set (by omega) rfl rfl hT) | exact Kn2 (by show sIs (vN V) T.1 (nI k) 2 = false; rw [sIs_nI hk (by omega)]; exact decide_eq_false c_152) hwn _ | exact Kn1 (by show sIs (vN V) T.1 (nI k) 2 = false; rw [sIs_nI hk (by omega)]; exact decide_eq_false c_152) hwn _
    · have hwn := sn_place_nge hwr c_168
      refine am_q_iload rfl rfl ?_
      refine am_q_goto rfl ?_
      refine am_q_istore_n [some _, some _, some _, some _, some _, some _, some _, some _, some _] rfl (Nat.le_of_ble_eq_true rfl) rfl ?_
      refine am_q_iload rfl rfl ?_
      refine am_q_zneN rfl (by omega) (fun c_180 => ?_) (fun c_180 => absurd c_180 (by omega))
      refine am_q_iload rfl rfl ?_
      refine am_q_zeqN rfl (by omega) (fun c_196 => ?_) (fun c_196 => absurd c_196 (by omega))
      refine am_q_iload rfl rfl ?_
      refine am_q_zeqN rfl (by omega) (fun c_221 => ?_) (fun c_221 => absurd c_221 (by omega))
      first | exact Ky (by show sIs (vN V) T.1 (nI k) 2 = true; rw [sIs_nI hk (by omega)]; exact decide_eq_true c_152) _ _ (fr_B (frB_up2 (by omega))) (by rw [dDo1 hix (Or.inr rfl)]; exact mWall_set (by omega) rfl rfl hT) | exact Kn2 (by show sIs (vN V) T.1 (nI k) 2 = false; rw [sIs_nI hk (by omega)]; exact decide_eq_false c_152) hwn _ | exact Kn1 (by show sIs (vN V) T.1 (nI k) 2 = false; rw [sIs_nI hk (by omega)]; exact decide_eq_false c_152) hwn _
  · refine am_q_iconst (v := nI 1) rfl rfl ?_
    refine am_q_goto rfl ?_
    refine am_q_istore [some _, some _, some _, some _, some _, some _, some _, some _, some _] rfl (Nat.le_of_ble_eq_true rfl) rfl ?_
    refine am_q_iload rfl rfl ?_
    refine am_q_zneN rfl (by omega) (fun c_164 => ?_) (fun c_164 => absurd c_164 (by omega))
    refine am_q_iload_n rfl rfl ?_
    refine am_q_istore_n [some _, some _, some _, some _, some _, some _, some _, some _, some _] rfl (Nat.le_of_ble_eq_true rfl) rfl ?_
    refine am_q_iload rfl rfl ?_
    refine am_q_zneN rfl (by omega) (fun c_180 => ?_) (fun c_180 => absurd c_180 (by omega))
    refine am_q_iload rfl rfl ?_
    refine am_q_zeqN rfl (by omega) (fun c_196 => absurd c_196 (by omega)) (fun c_196 => ?_)
    refine am_q_iload rfl rfl ?_
    refine am_q_iconst (v := nI 2) rfl rfl ?_
    refine am_q_ineN rfl (by omega) (by omega) (fun c_202 => ?_) (fun c_202 => absurd c_202 (by omega))
    refine am_q_iload rfl rfl ?_
    refine am_q_zeqN rfl (by omega) (fun c_221 => absurd c_221 (by omega)) (fun c_221 => ?_)
    refine am_q_aload_n rfl rfl ?_
    refine am_q_sipush (v := nI 798) rfl rfl ?_
    refine am_q_iload rfl rfl ?_
    refine am_q_iconst (v := nI 1) rfl rfl ?_
    refine am_q_call rfl rfl (m_leave _ n 798 k (by decide) (by omega) _ _ _) rfl ?_
    first | exact Ky (by show sIs (vN V) T.1 (nI k) 2 = true; rw [sIs_nI hk (by omega)]; exact decide_eq_true c_152) _ _ (fr_B (frB_up2 (by omega))) (by rw [dDo1 hix (Or.inr rfl)]; exact mWall_set (by omega) rfl rfl hT) | exact Kn2 (by show sIs (vN V) T.1 (nI k) 2 = false; rw [sIs_nI hk (by omega)]; exact decide_eq_false c_152) hwn _ | exact Kn1 (by show sIs (vN V) T.1 (nI k) 2 = false; rw [sIs_nI hk (by omega)]; exact decide_eq_false c_152) hwn _

theorem m_jud2 (d : Nat) (n : Nat) {V : sVal} {T : sWall} {μ : am_M2} (ν : am_N2) (hV : mVal μ V) (hO : vOk V) (hT : mWall μ 798 T) (hI : sI (vN V) (vP V) T.1 T.2.1) (ht : T.2.2 < 2 ^ 30) (j w : Nat) (wr ou : Option Nat) (hwr : ∀ x, wr = some x → x < 2 ^ 31) (Q : am_R → Prop) (k : Nat) (hk : k < vN V) (q : Nat) (hq : q < vP V) (o8 : Option Value) (Ky : dCan V T 2 (nI k) (nI q) = true → ∀ μ2 o8, fr μ μ2 → mWall μ2 798 (dDo V T 2 (nI k) (nI q)) → am_w (d + 6) (Option.some FieldType.int) am_g246 234 [some (.ref 133), some (.int (nI w)), some (.int (sn_place wr)), some (.int (sn_place ou)), some (.int (nI j)), some (.int (nI 2)), some (.int (nI k)), some (.int (nI q)), o8] [] (am_hp n μ2 ν) Q) (Kn1 : dCan V T 2 (nI k) (nI q) = false → wr = none → ∀ o8, am_w (d + 6) (Option.some FieldType.int) am_g246 234 [some (.ref 133), some (.int (nI w)), some (.int (nI j)), some (.int (sn_place ou)), some (.int (nI j)), some (.int (nI 2)), some (.int (nI k)), some (.int (nI q)), o8] [] (am_hp n μ ν) Q) (Kn2 : dCan V T 2 (nI k) (nI q) = false → ¬ wr = none → ∀ o8, am_w (d + 6) (Option.some FieldType.int) am_g246 234 [some (.ref 133), some (.int (nI w)), some (.int (sn_place wr)), some (.int (sn_place ou)), some (.int (nI j)), some (.int (nI 2)), some (.int (nI k)), some (.int (nI q)), o8] [] (am_hp n μ ν) Q) : am_w (d + 6) (Option.some FieldType.int) am_g246 81 [some (.ref 133), some (.int (nI w)), some (.int (sn_place wr)), some (.int (sn_place ou)), some (.int (nI j)), some (.int (nI 2)), some (.int (nI k)), some (.int (nI q)), o8] [] (am_hp n μ ν) (Q) := by
  have h6 := hO.1.1
  have hP8 := hO.1.2.1
  have h8 := sI_8 hO hI
  have k4 := (hI k (by omega)).1
  have hix : am_ix (nI k) (vN V) = some k := am_ix_nI hk (by omega)
  have hiq : am_ix (nI q) (vP V) = some q := am_ix_nI hq (by omega)
  have e1 := sIs_nI (x := 1) (st := T.1) hk (by omega)
  have e3 := sIs_nI (x := 3) (st := T.1) hk (by omega)
  have hmy : dMay V T (nI k) (nI q) = sMay V T.2.1 k q := by rw [dMay_yes hix hiq]; unfold sOpen; rw [sBits_tb]; simp [hq]
  refine am_q_iload rfl rfl ?_
  refine am_q_zeqN rfl (by omega) (fun c_83 => absurd c_83 (by omega)) (fun c_83 => ?_)
  refine am_q_iload rfl rfl ?_
  refine am_q_iconst (v := nI 1) rfl rfl ?_
  refine am_q_ineN rfl (by omega) (by omega) (fun c_89 => ?_) (fun c_89 => absurd c_89 (by omega))
  refine am_q_iload rfl rfl ?_
  refine am_q_iconst (v := nI 2) rfl rfl ?_
  refine am_q_ineN rfl (by omega) (by omega) (fun c_110 => absurd c_110 (by omega)) (fun c_110 => ?_)
  refine am_q_aload_n rfl rfl ?_
  refine am_q_sipush (v := nI 798) rfl rfl ?_
  refine am_q_iload rfl rfl ?_
  refine am_q_call rfl rfl (m_isLoose _ n ν 798 (by decide) hT k (by omega) k4) rfl ?_
  refine am_q_if_eqB rfl (fun c_122 => ?_) (fun c_122 => ?_)
  · refine am_q_iconst (v := nI 0) rfl rfl ?_
    refine am_q_istore [some _, some _, some _, some _, some _, some _, some _, some _, some _] rfl (Nat.le_of_ble_eq_true rfl) rfl ?_
    refine am_q_iload rfl rfl ?_
    refine am_q_zneN rfl (by omega) (fun c_164 => absurd c_164 (by omega)) (fun c_164 => ?_)
    refine am_q_iload_n rfl rfl ?_
    refine am_q_if_ge rfl (fun c_168 => ?_) (fun c_168 => ?_)
    · obtain ⟨wi, hwi⟩ := sn_place_ge hwr c_168
      have hwn : ¬ wr = none := by rw [hwi]; exact fun z => by cases z
      refine am_q_iload_n rfl rfl ?_
      refine am_q_istore_n [some _, some _, some _, some _, some _, some _, some _, some _, some _] rfl (Nat.le_of_ble_eq_true rfl) rfl ?_
      refine am_q_iload rfl rfl ?_
      refine am_q_zneN rfl (by omega) (fun c_180 => ?_) (fun c_180 => absurd c_180 (by omega))
      refine am_q_iload rfl rfl ?_
      refine am_q_zeqN rfl (by omega) (fun c_196 => ?_) (fun c_196 => absurd c_196 (by omega))
      refine am_q_iload rfl rfl ?_
      refine am_q_zeqN rfl (by omega) (fun c_221 => ?_) (fun c_221 => absurd c_221 (by omega))
      first | exact Ky (by show ((sIs (vN V) T.1 (nI k) 1 || sIs (vN V) T.1 (nI k) 3) && dMay V T (nI k) (nI q)) = true; rw [e1, e3, c_122, hmy, c_136]; rfl) _ _ (fr_B (frB_up2 (by omega))) (by rw [dDo2 hix hiq]; exact mWall_set (by omega) rfl rfl hT) | exact Kn2 (by show ((sIs (vN V) T.1 (nI k) 1 || sIs (vN V) T.1 (nI k) 3) && dMay V T (nI k) (nI q)) = false; rw [e1, e3, c_122]; rfl) hwn _ | exact Kn2 (by show ((sIs (vN V) T.1 (nI k) 1 || sIs (vN V) T.1 (nI k) 3) && dMay V T (nI k) (nI q)) = false; rw [hmy, c_136, Bool.and_false]) hwn _ | exact Kn1 (by show ((sIs (vN V) T.1 (nI k) 1 || sIs (vN V) T.1 (nI k) 3) && dMay V T (nI k) (nI q)) = false; rw [e1, e3, c_122]; rfl) hwn _ | exact Kn1 (by show ((sIs (vN V) T.1 (nI k) 1 || sIs (vN V) T.1 (nI k) 3) && dMay V T (nI k) (nI q)) = false; rw [hmy, c_136, Bool.and_false]) hwn _
    · have hwn := sn_place_nge hwr c_168
      refine am_q_iload rfl rfl ?_
      refine am_q_goto rfl ?_
      refine am_q_istore_n [some _, some _, some _, some _, some _, some _, some _, some _, some _] rfl (Nat.le_of_ble_eq_true rfl) rfl ?_
      refine am_q_iload rfl rfl ?_
      refine am_q_zneN rfl (by omega) (fun c_180 => ?_) (fun c_180 => absurd c_180 (by omega))
      refine am_q_iload rfl rfl ?_
      refine am_q_zeqN rfl (by omega) (fun c_196 => ?_) (fun c_196 => absurd c_196 (by omega))
      refine am_q_iload rfl rfl ?_
      refine am_q_zeqN rfl (by omega) (fun c_221 => ?_) (fun c_221 => absurd c_221 (by omega))
      first | exact Ky (by show ((sIs (vN V) T.1 (nI k) 1 || sIs (vN V) T.1 (nI k) 3) && dMay V T (nI k) (nI q)) = true; rw [e1, e3, c_122, hmy, c_136]; rfl) _ _ (fr_B (frB_up2 (by omega))) (by rw [dDo2 hix hiq]; exact mWall_set (by omega) rfl rfl hT) | exact Kn2 (by show ((sIs (vN V) T.1 (nI k) 1 || sIs (vN V) T.1 (nI k) 3) && dMay V T (nI k) (nI q)) = false; rw [e1, e3, c_122]; rfl) hwn _ | exact Kn2 (by show ((sIs (vN V) T.1 (nI k) 1 || sIs (vN V) T.1 (nI k) 3) && dMay V T (nI k) (nI q)) = false; rw [hmy, c_136, Bool.and_false]) hwn _ | exact Kn1 (by show ((sIs (vN V) T.1 (nI k) 1 || sIs (vN V) T.1 (nI k) 3) && dMay V T (nI k) (nI q)) = false; rw [e1, e3, c_122]; rfl) hwn _ | exact Kn1 (by show ((sIs (vN V) T.1 (nI k) 1 || sIs (vN V) T.1 (nI k) 3) && dMay V T (nI k) (nI q)) = false; rw [hmy, c_136, Bool.and_false]) hwn _
  · refine am_q_aload_n rfl rfl ?_
    refine am_q_sipush (v := nI 798) rfl rfl ?_
    refine am_q_iload rfl rfl ?_
    refine am_q_iload rfl rfl ?_
    refine am_q_call rfl rfl (m_mayStand _ n ν hV hO 798 (by decide) hT hI k hk q (by omega)) rfl ?_
    refine am_q_if_eqB rfl (fun c_136 => ?_) (fun c_136 => ?_)
    · refine am_q_iconst (v := nI 0) rfl rfl ?_
      refine am_q_istore [some _, some _, some _, some _, some _, some _, some _, some _, some _] rfl (Nat.le_of_ble_eq_true rfl) rfl ?_
      refine am_q_iload rfl rfl ?_
      refine am_q_zneN rfl (by omega) (fun c_164 => absurd c_164 (by omega)) (fun c_164 => ?_)
      refine am_q_iload_n rfl rfl ?_
      refine am_q_if_ge rfl (fun c_168 => ?_) (fun c_168 => ?_)
      · obtain ⟨wi, hwi⟩ := sn_place_ge hwr c_168
        have hwn : ¬ wr = none := by rw [hwi]; exact fun z => by cases z
        refine am_q_iload_n rfl rfl ?_
        refine am_q_istore_n [some _, some _, some _, some _, some _, some _, some _, some _, some _] rfl (Nat.le_of_ble_eq_true rfl) rfl ?_
        refine am_q_iload rfl rfl ?_
        refine am_q_zneN rfl (by omega) (fun c_180 => ?_) (fun c_180 => absurd c_180 (by omega))
        refine am_q_iload rfl rfl ?_
        refine am_q_zeqN rfl (by omega) (fun c_196 => ?_) (fun c_196 => absurd c_196 (by omega))
        refine am_q_iload rfl rfl ?_
        refine am_q_zeqN rfl (by omega) (fun c_221 => ?_) (fun c_221 => absurd c_221 (by omega))
        first | exact Ky (by show ((sIs (vN V) T.1 (nI k) 1 || sIs (vN V) T.1 (nI k) 3) && dMay V T (nI k) (nI q)) = true; rw [e1, e3, c_122, hmy, c_136]; rfl) _ _ (fr_B (frB_up2 (by omega))) (by rw [dDo2 hix hiq]; exact mWall_set (by omega) rfl rfl hT) | exact Kn2 (by show ((sIs (vN V) T.1 (nI k) 1 || sIs (vN V) T.1 (nI k) 3) && dMay V T (nI k) (nI q)) = false; rw [e1, e3, c_122]; rfl) hwn _ | exact Kn2 (by show ((sIs (vN V) T.1 (nI k) 1 || sIs (vN V) T.1 (nI k) 3) && dMay V T (nI k) (nI q)) = false; rw [hmy, c_136, Bool.and_false]) hwn _ | exact Kn1 (by show ((sIs (vN V) T.1 (nI k) 1 || sIs (vN V) T.1 (nI k) 3) && dMay V T (nI k) (nI q)) = false; rw [e1, e3, c_122]; rfl) hwn _ | exact Kn1 (by show ((sIs (vN V) T.1 (nI k) 1 || sIs (vN V) T.1 (nI k) 3) && dMay V T (nI k) (nI q)) = false; rw [hmy, c_136, Bool.and_false]) hwn _
      · have hwn := sn_place_nge hwr c_168
        refine am_q_iload rfl rfl ?_
        refine am_q_goto rfl ?_
        refine am_q_istore_n [some _, some _, some _, some _, some _, some _, some _, some _, some _] rfl (Nat.le_of_ble_eq_true rfl) rfl ?_
        refine am_q_iload rfl rfl ?_
        refine am_q_zneN rfl (by omega) (fun c_180 => ?_) (fun c_180 => absurd c_180 (by omega))
        refine am_q_iload rfl rfl ?_
        refine am_q_zeqN rfl (by omega) (fun c_196 => ?_) (fun c_196 => absurd c_196 (by omega))
        refine am_q_iload rfl rfl ?_
        refine am_q_zeqN rfl (by omega) (fun c_221 => ?_) (fun c_221 => absurd c_221 (by omega))
        first | exact Ky (by show ((sIs (vN V) T.1 (nI k) 1 || sIs (vN V) T.1 (nI k) 3) && dMay V T (nI k) (nI q)) = true; rw [e1, e3, c_122, hmy, c_136]; rfl) _ _ (fr_B (frB_up2 (by omega))) (by rw [dDo2 hix hiq]; exact mWall_set (by omega) rfl rfl hT) | exact Kn2 (by show ((sIs (vN V) T.1 (nI k) 1 || sIs (vN V) T.1 (nI k) 3) && dMay V T (nI k) (nI q)) = false; rw [e1, e3, c_122]; rfl) hwn _ | exact Kn2 (by show ((sIs (vN V) T.1 (nI k) 1 || sIs (vN V) T.1 (nI k) 3) && dMay V T (nI k) (nI q)) = false; rw [hmy, c_136, Bool.and_false]) hwn _ | exact Kn1 (by show ((sIs (vN V) T.1 (nI k) 1 || sIs (vN V) T.1 (nI k) 3) && dMay V T (nI k) (nI q)) = false; rw [e1, e3, c_122]; rfl) hwn _ | exact Kn1 (by show ((sIs (vN V) T.1 (nI k) 1 || sIs (vN V) T.1 (nI k) 3) && dMay V T (nI k) (nI q)) = false; rw [hmy, c_136, Bool.and_false]) hwn _
    · refine am_q_goto rfl ?_
      refine am_q_iconst (v := nI 1) rfl rfl ?_
      refine am_q_goto rfl ?_
      refine am_q_istore [some _, some _, some _, some _, some _, some _, some _, some _, some _] rfl (Nat.le_of_ble_eq_true rfl) rfl ?_
      refine am_q_iload rfl rfl ?_
      refine am_q_zneN rfl (by omega) (fun c_164 => ?_) (fun c_164 => absurd c_164 (by omega))
      refine am_q_iload_n rfl rfl ?_
      refine am_q_istore_n [some _, some _, some _, some _, some _, some _, some _, some _, some _] rfl (Nat.le_of_ble_eq_true rfl) rfl ?_
      refine am_q_iload rfl rfl ?_
      refine am_q_zneN rfl (by omega) (fun c_180 => ?_) (fun c_180 => absurd c_180 (by omega))
      refine am_q_iload rfl rfl ?_
      refine am_q_zeqN rfl (by omega) (fun c_196 => absurd c_196 (by omega)) (fun c_196 => ?_)
      refine am_q_iload rfl rfl ?_
      refine am_q_iconst (v := nI 2) rfl rfl ?_
      refine am_q_ineN rfl (by omega) (by omega) (fun c_202 => absurd c_202 (by omega)) (fun c_202 => ?_)
      refine am_q_aload_n rfl rfl ?_
      refine am_q_sipush (v := nI 798) rfl rfl ?_
      refine am_q_iload rfl rfl ?_
      refine am_q_iload rfl rfl ?_
      refine am_q_call rfl rfl (m_stand _ n 798 k (by decide) (by omega) _ _ _) rfl ?_
      refine am_q_goto rfl ?_
      first | exact Ky (by show ((sIs (vN V) T.1 (nI k) 1 || sIs (vN V) T.1 (nI k) 3) && dMay V T (nI k) (nI q)) = true; rw [e1, e3, c_122, hmy, c_136]; rfl) _ _ (fr_B (frB_up2 (by omega))) (by rw [dDo2 hix hiq]; exact mWall_set (by omega) rfl rfl hT) | exact Kn2 (by show ((sIs (vN V) T.1 (nI k) 1 || sIs (vN V) T.1 (nI k) 3) && dMay V T (nI k) (nI q)) = false; rw [e1, e3, c_122]; rfl) hwn _ | exact Kn2 (by show ((sIs (vN V) T.1 (nI k) 1 || sIs (vN V) T.1 (nI k) 3) && dMay V T (nI k) (nI q)) = false; rw [hmy, c_136, Bool.and_false]) hwn _ | exact Kn1 (by show ((sIs (vN V) T.1 (nI k) 1 || sIs (vN V) T.1 (nI k) 3) && dMay V T (nI k) (nI q)) = false; rw [e1, e3, c_122]; rfl) hwn _ | exact Kn1 (by show ((sIs (vN V) T.1 (nI k) 1 || sIs (vN V) T.1 (nI k) 3) && dMay V T (nI k) (nI q)) = false; rw [hmy, c_136, Bool.and_false]) hwn _

theorem m_judT (d : Nat) (n : Nat) {V : sVal} {T : sWall} {μ : am_M2} (ν : am_N2) (hV : mVal μ V) (hO : vOk V) (hT : mWall μ 798 T) (hI : sI (vN V) (vP V) T.1 T.2.1) (j w e : Nat) (wr ou : Option Nat) (hou : ∀ x, ou = some x → x < 2 ^ 31) (sv pv : Int32) (o8 : Option Value) (Q : am_R → Prop) (K : am_w (d + 6) (Option.some FieldType.int) am_g246 31 [some (.ref 133), some (.int (nI w)), some (.int (sn_place wr)), some (.int (sn_place (if ou = none ∧ sOut V T = true then some j else ou))), some (.int (nI (j + 1))), some (.int (nI e)), some (.int sv), some (.int pv), o8] [] (am_hp n μ ν) Q) : am_w (d + 6) (Option.some FieldType.int) am_g246 234 [some (.ref 133), some (.int (nI w)), some (.int (sn_place wr)), some (.int (sn_place ou)), some (.int (nI j)), some (.int (nI e)), some (.int sv), some (.int pv), o8] [] (am_hp n μ ν) (Q) := by
  have h6 := hO.1.1
  have h64 : sBits (fun s => decide (T.1 s = 4)) (vN V) < 64 := sn_64 h6
  refine am_q_aload_n rfl rfl ?_
  refine am_q_sipush (v := nI 798) rfl rfl ?_
  refine am_q_iconst (v := nI 4) rfl rfl ?_
  refine am_q_call rfl rfl (m_who _ n ν hV hO 798 (by decide) hT hI 4 (by decide)) rfl ?_
  refine am_q_zeqN rfl (by omega) (fun c_242 => ?_) (fun c_242 => ?_)
  · rw [if_neg (fun z => by have := z.2; unfold sOut at this; exact (of_decide_eq_true this) c_242)] at K
    refine am_q_iload_n rfl rfl ?_
    refine am_q_istore_n [some _, some _, some _, some _, some _, some _, some _, some _, _] rfl (Nat.le_of_ble_eq_true rfl) rfl ?_
    refine am_q_iinc [some _, some _, some _, some _, some _, some _, some _, some _, _] rfl (c := nI 1) rfl rfl (Nat.le_of_ble_eq_true rfl) (nI_add _ _) rfl ?_
    refine am_q_goto rfl ?_
    exact K
  · have hso : sOut V T = true := decide_eq_true c_242
    refine am_q_iload_n rfl rfl ?_
    refine am_q_if_ge rfl (fun c_246 => ?_) (fun c_246 => ?_)
    · obtain ⟨wi, hwi⟩ := sn_place_ge hou c_246
      rw [if_neg (fun z => by rw [hwi] at z; cases z.1)] at K
      refine am_q_iload_n rfl rfl ?_
      refine am_q_istore_n [some _, some _, some _, some _, some _, some _, some _, some _, _] rfl (Nat.le_of_ble_eq_true rfl) rfl ?_
      refine am_q_iinc [some _, some _, some _, some _, some _, some _, some _, some _, _] rfl (c := nI 1) rfl rfl (Nat.le_of_ble_eq_true rfl) (nI_add _ _) rfl ?_
      refine am_q_goto rfl ?_
      exact K
    · have hwn := sn_place_nge hou c_246
      rw [if_pos ⟨hwn, hso⟩] at K
      refine am_q_iload rfl rfl ?_
      refine am_q_goto rfl ?_
      refine am_q_istore_n [some _, some _, some _, some _, some _, some _, some _, some _, _] rfl (Nat.le_of_ble_eq_true rfl) rfl ?_
      refine am_q_iinc [some _, some _, some _, some _, some _, some _, some _, some _, _] rfl (c := nI 1) rfl rfl (Nat.le_of_ble_eq_true rfl) (nI_add _ _) rfl ?_
      refine am_q_goto rfl ?_
      exact K

theorem jS_s (V : sVal) (Y : sYear) (i : Nat) : jS V Y (i + 1) = (dW V (jS V Y i).1 (Y.2.1 i) (ySo Y i) (yPl Y i), if dCan V (jS V Y i).1 (Y.2.1 i) (ySo Y i) (yPl Y i) = false ∧ (jS V Y i).2.1 = none then some i else (jS V Y i).2.1, if (jS V Y i).2.2 = none ∧ sOut V (dW V (jS V Y i).1 (Y.2.1 i) (ySo Y i) (yPl Y i)) = true then some i else (jS V Y i).2.2) := rfl
theorem m_judA (d : Nat) (n : Nat) {V : sVal} {Y : sYear} {μ : am_M2} (ν : am_N2) (hV : mVal μ V) (hO : vOk V) (hYo : yOk V Y) (j w : Nat) (hj : j < Y.1) (hT : mWall μ 798 (jS V Y j).1) (sv pv : Int32) (hsv : Y.2.1 j ≠ 0 → sv = nI (Y.2.2.1 j)) (hpv : Y.2.1 j = 2 → pv = nI (Y.2.2.2 j)) (o8 : Option Value) (Q : am_R → Prop)
    (K : ∀ μ2 o8, fr μ μ2 → mWall μ2 798 (jS V Y (j + 1)).1 → am_w (d + 6) (Option.some FieldType.int) am_g246 31 [some (.ref 133), some (.int (nI w)), some (.int (sn_place (jS V Y (j + 1)).2.1)), some (.int (sn_place (jS V Y (j + 1)).2.2)), some (.int (nI (j + 1))), some (.int (nI (Y.2.1 j))), some (.int sv), some (.int pv), o8] [] (am_hp n μ2 ν) Q) :
    am_w (d + 6) (Option.some FieldType.int) am_g246 81 [some (.ref 133), some (.int (nI w)), some (.int (sn_place (jS V Y j).2.1)), some (.int (sn_place (jS V Y j).2.2)), some (.int (nI j)), some (.int (nI (Y.2.1 j))), some (.int sv), some (.int pv), o8] [] (am_hp n μ ν) Q := by
  have h6 := hO.1.1
  have hP8 := hO.1.2.1
  obtain ⟨i1, i2, i3, i4⟩ := jS_I hO hYo j (by omega)
  obtain ⟨z1, z2, z3, z4⟩ := jS_I hO hYo (j + 1) (by omega)
  have hjn := hYo.1
  obtain ⟨y1, y2, y3⟩ := hYo.2 j hj
  have hwr : ∀ x, (jS V Y j).2.1 = some x → x < 2 ^ 31 := fun x hx => by have := i3 x hx; omega
  have hou : ∀ x, (jS V Y j).2.2 = some x → x < 2 ^ 31 := fun x hx => by have := i4 x hx; omega
  -- the three ways on
  have Kt : ∀ μ2 o8 (wl : Int32), fr μ μ2 → mWall μ2 798 (jS V Y (j + 1)).1 → wl = sn_place (jS V Y (j + 1)).2.1 → am_w (d + 6) (Option.some FieldType.int) am_g246 234 [some (.ref 133), some (.int (nI w)), some (.int wl), some (.int (sn_place (jS V Y j).2.2)), some (.int (nI j)), some (.int (nI (Y.2.1 j))), some (.int sv), some (.int pv), o8] [] (am_hp n μ2 ν) Q := fun μ2 o8 wl hf hW hwl => by
    subst hwl
    exact m_judT d n ν (mVal_fr hf hV) hO hW z1 j w (Y.2.1 j) (jS V Y (j + 1)).2.1 (jS V Y j).2.2 hou sv pv o8 Q (K μ2 o8 hf hW)
  have Ky : dCan V (jS V Y j).1 (Y.2.1 j) (ySo Y j) (yPl Y j) = true → ∀ μ2 o8, fr μ μ2 → mWall μ2 798 (dDo V (jS V Y j).1 (Y.2.1 j) (ySo Y j) (yPl Y j)) → am_w (d + 6) (Option.some FieldType.int) am_g246 234 [some (.ref 133), some (.int (nI w)), some (.int (sn_place (jS V Y j).2.1)), some (.int (sn_place (jS V Y j).2.2)), some (.int (nI j)), some (.int (nI (Y.2.1 j))), some (.int sv), some (.int pv), o8] [] (am_hp n μ2 ν) Q := fun hd μ2 o8 hf hW =>
    Kt μ2 o8 _ hf (by rw [jS_s, dW_y hd]; exact hW) (by rw [jS_s]; show _ = sn_place (if _ then _ else _); rw [if_neg (fun z => by rw [hd] at z; cases z.1)])
  have Kn1 : dCan V (jS V Y j).1 (Y.2.1 j) (ySo Y j) (yPl Y j) = false → (jS V Y j).2.1 = none → ∀ o8, am_w (d + 6) (Option.some FieldType.int) am_g246 234 [some (.ref 133), some (.int (nI w)), some (.int (nI j)), some (.int (sn_place (jS V Y j).2.2)), some (.int (nI j)), some (.int (nI (Y.2.1 j))), some (.int sv), some (.int pv), o8] [] (am_hp n μ ν) Q := fun hd hn o8 =>
    Kt μ o8 _ (fr_rf μ) (by rw [jS_s, dW_n hd]; exact hT) (by rw [jS_s]; show _ = sn_place (if _ then _ else _); rw [if_pos ⟨hd, hn⟩]; rfl)
  have Kn2 : dCan V (jS V Y j).1 (Y.2.1 j) (ySo Y j) (yPl Y j) = false → ¬ (jS V Y j).2.1 = none → ∀ o8, am_w (d + 6) (Option.some FieldType.int) am_g246 234 [some (.ref 133), some (.int (nI w)), some (.int (sn_place (jS V Y j).2.1)), some (.int (sn_place (jS V Y j).2.2)), some (.int (nI j)), some (.int (nI (Y.2.1 j))), some (.int sv), some (.int pv), o8] [] (am_hp n μ ν) Q := fun hd hn o8 =>
    Kt μ o8 _ (fr_rf μ) (by rw [jS_s, dW_n hd]; exact hT) (by rw [jS_s]; show _ = sn_place (if _ then _ else _); rw [if_neg (fun z => hn z.2)])
  unfold ySo yPl at Ky Kn1 Kn2
  rcases (show Y.2.1 j = 0 ∨ Y.2.1 j = 1 ∨ Y.2.1 j = 2 ∨ Y.2.1 j = 3 by omega) with e | e | e | e
  · rw [e] at Ky Kn1 Kn2 ⊢
    exact m_jud0 d n ν hV hO hT i1 (by omega) j w _ _ hwr Q sv pv o8 Ky Kn1 Kn2
  · have hs := hsv (by omega)
    subst hs
    rw [e] at Ky Kn1 Kn2 ⊢
    exact m_jud1 d n ν hV hO hT i1 (by omega) j w _ _ hwr Q _ (y2 (by omega)) pv o8 Ky Kn1 Kn2
  · have hs := hsv (by omega)
    have hp := hpv e
    subst hs
    subst hp
    rw [e] at Ky Kn1 Kn2 ⊢
    exact m_jud2 d n ν hV hO hT i1 (by omega) j w _ _ hwr Q _ (y2 (by omega)) _ (y3 e) o8 Ky Kn1 Kn2
  · have hs := hsv (by omega)
    subst hs
    rw [e] at Ky Kn1 Kn2 ⊢
    exact m_jud3 d n ν hV hO hT i1 (by omega) j w _ _ hwr Q _ (y2 (by omega)) pv o8 Ky Kn1 Kn2
theorem m_judL (d w : Nat) (hw : w ≤ 2) (n : Nat) {V : sVal} {W : sWall} {U : List sWall} {K : Nat → Option (sWall × sSeen)} {S : sSeen} {Y : sYear} {μ : am_M2} (ν : am_N2) (hR : mR μ V W U K S Y) (hO : vOk V) (hI : sI (vN V) (vP V) W.1 W.2.1) (ht : W.2.2 < 2 ^ 20) (hYo : yOk V Y) : ∀ (m j : Nat) (μ1 : am_M2) (o5 : Option Value) (o6 : Option Value) (o7 : Option Value) (o8 : Option Value), j + m = Y.1 → fr μ μ1 ∧ mWall μ1 798 (jS V Y j).1 → am_w (d + 6) (Option.some FieldType.int) am_g246 31 [some (.ref 133), some (.int (nI w)), some (.int (sn_place (jS V Y j).2.1)), some (.int (sn_place (jS V Y j).2.2)), some (.int (nI j)), o5, o6, o7, o8] [] (am_hp n μ1 ν) (fun y => ∃ (μ' : am_M2), y = (some (.int (qJudged V Y (nI w))), am_hp n μ' ν) ∧ fr μ μ') := by
  intro m
  induction m with
  | zero =>
    intro j μ1 o5 o6 o7 o8 hj hinv
    have hR1 := mR_fr hinv.1 hR
    have hV1 := hR1.1
    have hY1 := hR1.2.2.2.2.2
    have h6 := hO.1.1
    have hjn := hYo.1
    have hjj : j = Y.1 := by omega
    obtain ⟨i1, i2, i3, i4⟩ := jS_I hO hYo j (by omega)
    have hrw : rIn (nI w) 0 2 = true := by rw [rIn_nI (by omega) (by decide) (by decide)]; simp; omega
    have hT := hinv.2
    refine am_q_iload rfl rfl ?_
    refine am_q_aload_n rfl rfl ?_
    refine am_q_gr rfl rfl rfl ?_
    refine am_q_iconst (v := nI 0) rfl rfl ?_
    refine am_q_iald rfl rfl (by first | exact am_ix_nI (by omega) (by omega) | rfl) hY1.1 ?_
    refine am_q_igeN rfl (by omega) (by omega) (fun c_39 => ?_) (fun c_39 => absurd c_39 (by omega))
    refine am_q_iload_n rfl rfl ?_
    refine am_q_zneN rfl (by omega) (fun c_263 => ?_) (fun c_263 => ?_)
    · refine am_q_iload_n rfl rfl ?_
      refine am_q_iconst (v := nI 1) rfl rfl ?_
      refine am_q_ineN rfl (by omega) (by omega) (fun c_272 => ?_) (fun c_272 => ?_)
      · refine am_q_aload_n rfl rfl ?_
        refine am_q_sipush (v := nI 798) rfl rfl ?_
        refine am_q_iconst (v := nI 2) rfl rfl ?_
        refine am_q_call rfl rfl (m_who _ n ν hV1 hO 798 (by decide) hT i1 2 (by decide)) rfl ?_
        refine am_q_call rfl rfl (m_bits _ _ (sn_64 h6) _) rfl ?_
        refine am_q_ireturn rfl rfl rfl ?_
        have hq : qJudged V Y (nI w) = nI (sn_bc (sBits (fun s => decide ((jS V Y j).1.1 s = 2)) (vN V))) := by rw [qJudged, if_pos hrw, if_pos (show nI w = nI 2 by rw [show w = 2 by omega]), hjj]
        rw [hq]
        exact ⟨_, rfl, hinv.1⟩
      · refine am_q_iload_n rfl rfl ?_
        refine am_q_goto rfl ?_
        refine am_q_ireturn rfl rfl rfl ?_
        have hq : qJudged V Y (nI w) = sn_place (jS V Y j).2.2 := by rw [qJudged, if_pos hrw, if_neg (fun z => by have := (nI_eq (by omega) (by decide)).mp z; omega), if_neg (fun z => by have := (nI_eq (by omega) (by decide)).mp z; omega), hjj]
        rw [hq]
        exact ⟨_, rfl, hinv.1⟩
    · refine am_q_iload_n rfl rfl ?_
      refine am_q_goto rfl ?_
      refine am_q_ireturn rfl rfl rfl ?_
      have hq : qJudged V Y (nI w) = sn_place (jS V Y j).2.1 := by rw [qJudged, if_pos hrw, if_neg (fun z => by have := (nI_eq (by omega) (by decide)).mp z; omega), if_pos (show nI w = nI 0 by rw [c_263]), hjj]
      rw [hq]
      exact ⟨_, rfl, hinv.1⟩
  | succ m ih =>
    intro j μ1 o5 o6 o7 o8 hj hinv
    have hR1 := mR_fr hinv.1 hR
    have hV1 := hR1.1
    have hY1 := hR1.2.2.2.2.2
    have h6 := hO.1.1
    have hjn := hYo.1
    obtain ⟨y1, y2, y3⟩ := hY1.2.2 j (by omega)
    have hyd := (hYo.2 j (by omega)).1
    refine am_q_iload rfl rfl ?_
    refine am_q_aload_n rfl rfl ?_
    refine am_q_gr rfl rfl rfl ?_
    refine am_q_iconst (v := nI 0) rfl rfl ?_
    refine am_q_iald rfl rfl (by first | exact am_ix_nI (by omega) (by omega) | rfl) hY1.1 ?_
    refine am_q_igeN rfl (by omega) (by omega) (fun c_39 => absurd c_39 (by omega)) (fun c_39 => ?_)
    refine am_q_aload_n rfl rfl ?_
    refine am_q_gr rfl rfl rfl ?_
    refine am_q_iconst (v := nI 1) rfl rfl ?_
    refine am_q_iconst (v := nI 3) rfl rfl ?_
    refine am_q_iload rfl rfl ?_
    refine am_q_imul rfl (pk_mul _ _) ?_
    refine am_q_iadd rfl (nI_add _ _) ?_
    refine am_q_iald rfl rfl (am_ix_nI (show 1 + 3 * j < 250 by omega) (by decide)) y1 ?_
    refine am_q_istore [some _, some _, some _, some _, some _, some _, _, _, _] rfl (Nat.le_of_ble_eq_true rfl) rfl ?_
    refine am_q_aload_n rfl rfl ?_
    refine am_q_gr rfl rfl rfl ?_
    refine am_q_iconst (v := nI 2) rfl rfl ?_
    refine am_q_iconst (v := nI 3) rfl rfl ?_
    refine am_q_iload rfl rfl ?_
    refine am_q_imul rfl (pk_mul _ _) ?_
    refine am_q_iadd rfl (nI_add _ _) ?_
    refine am_q_iald rfl rfl (am_ix_nI (show 2 + 3 * j < 250 by omega) (by decide)) rfl ?_
    refine am_q_istore [some _, some _, some _, some _, some _, some _, some _, _, _] rfl (Nat.le_of_ble_eq_true rfl) rfl ?_
    refine am_q_aload_n rfl rfl ?_
    refine am_q_gr rfl rfl rfl ?_
    refine am_q_iconst (v := nI 3) rfl rfl ?_
    refine am_q_iconst (v := nI 3) rfl rfl ?_
    refine am_q_iload rfl rfl ?_
    refine am_q_imul rfl (pk_mul _ _) ?_
    refine am_q_iadd rfl (nI_add _ _) ?_
    refine am_q_iald rfl rfl (am_ix_nI (show 3 + 3 * j < 250 by omega) (by decide)) rfl ?_
    refine am_q_istore [some _, some _, some _, some _, some _, some _, some _, some _, _] rfl (Nat.le_of_ble_eq_true rfl) rfl ?_
    refine m_judA d n ν hV1 hO hYo j w (by omega) hinv.2 _ _ y2 y3 o8 _ (fun μ2 o hf hW => ?_)
    exact ih (j + 1) _ _ _ _ _ (by omega) ⟨fr_tr hinv.1 hf, hW⟩

/-- StoneSecretsModel.judged(I)I -/
theorem m_judged (d : Nat) (w : Int32) (n : Nat) {V : sVal} {W : sWall} {U : List sWall} {K : Nat → Option (sWall × sSeen)} {S : sSeen} {Y : sYear} {μ : am_M2} (ν : am_N2) (hR : mR μ V W U K S Y) (hO : vOk V) (hI : sI (vN V) (vP V) W.1 W.2.1) (ht : W.2.2 < 2 ^ 20) (hYo : yOk V Y) : ∃ (μ' : am_M2), am_run (d + 7) 246 [.ref 133, .int w] (am_hp n μ ν) = some (some (.int (qJudged V Y w)), am_hp n μ' ν) ∧ fr μ μ' := by
  have key : ∃ r, am_run (d + 7) 246 [.ref 133, .int w] (am_hp n μ ν) = some r ∧ ∃ (μ' : am_M2), r = (some (.int (qJudged V Y w)), am_hp n μ' ν) ∧ fr μ μ' := am_run_wE (k := 246) (d := d + 6) rfl rfl (Nat.le_of_ble_eq_true rfl) [some (.ref 133), some (.int w), none, none, none, none, none, none, none] rfl (by
    refine am_q_aload_n rfl rfl ?_
    refine am_q_iconst (v := nI 0) rfl rfl ?_
    refine am_q_pi rfl rfl rfl (Or.inl rfl) ?_
    refine am_q_iload_n rfl rfl ?_
    refine am_q_iconst (v := nI 0) rfl rfl ?_
    refine am_q_iconst (v := nI 2) rfl rfl ?_
    refine am_q_call rfl rfl (m_within _ _ _ _ _) rfl ?_
    refine am_q_if_neB rfl (fun c_11 => ?_) (fun c_11 => ?_)
    · obtain ⟨k, -, hk, rfl⟩ := rIn_k c_11 (by decide) (by decide)
      refine am_q_aload_n rfl rfl ?_
      refine am_q_sipush (v := nI 798) rfl rfl ?_
      obtain ⟨μ1, hc1, hW1, hf1⟩ := m_starts _ n 798 (by decide) _ ν
      refine am_q_call rfl rfl (hc1) rfl ?_
      refine am_q_iconst (v := -1) rfl rfl ?_
      refine am_q_istore_n [some _, some _, some _, none, none, none, none, none, none] rfl (Nat.le_of_ble_eq_true rfl) rfl ?_
      refine am_q_iconst (v := -1) rfl rfl ?_
      refine am_q_istore_n [some _, some _, some _, some _, none, none, none, none, none] rfl (Nat.le_of_ble_eq_true rfl) rfl ?_
      refine am_q_iconst (v := nI 0) rfl rfl ?_
      refine am_q_istore [some _, some _, some _, some _, some _, none, none, none, none] rfl (Nat.le_of_ble_eq_true rfl) rfl ?_
      exact m_judL d k hk n ν hR hO hI ht hYo Y.1 0 _ none none none none (by omega) ⟨fr_tr (fr_thr μ) (fr_B hf1), hW1⟩
    · refine am_q_bipush (v := -2) rfl rfl ?_
      refine am_q_ireturn rfl rfl rfl ?_
      rw [qJudged, if_neg (by rw [c_11]; exact Bool.false_ne_true)]
      exact ⟨_, rfl, fr_thr μ⟩)
  obtain ⟨r, h1, μ', h2, h3⟩ := key
  exact ⟨μ', by rw [h1, h2], h3⟩
