def frL (ν ν' : am_N2) : Prop := ∀ i k, ¬ (i = 133 ∧ k = 32) → ν' i k = ν i k
theorem frL_rf (ν : am_N2) : frL ν ν := fun _ _ _ => rfl
theorem frL_tr {ν ν' ν'' : am_N2} (h : frL ν ν') (h' : frL ν' ν'') : frL ν ν'' := fun i k q => (h' i k q).trans (h i k q)
theorem frL_up (ν : am_N2) (v : Int64) : frL ν (am_upL ν 133 32 v) := fun i k q => by
  unfold am_upL
  by_cases e : i = 133
  · rw [if_pos e, if_neg (fun z => q ⟨e, z⟩)]
  · rw [if_neg e]
theorem upL_eq (ν : am_N2) (v : Int64) : am_upL ν 133 32 v 133 32 = v := by unfold am_upL; rw [if_pos rfl, if_pos rfl]
/-- StoneSecretsModel.draw(I)I -/
theorem m_draw (d : Nat) (n g m : Nat) (hg : g < 2 ^ 31) (hm : 0 < m) (hm2 : m < 2 ^ 31) (μ : am_M2) (ν : am_N2) (hν : ν 133 32 = lN g) : am_run (d + 1) 299 [.ref 133, .int (nI m)] (am_hp n μ ν) = some (some (.int (nI (dr (nx g) m))), am_hp n μ (am_upL ν 133 32 (lN (nx g)))) := by
  have hn := nx_lt g
  refine am_r299 (d := d + 0) (Nat.le_of_ble_eq_true rfl) [some (.ref 133), some (.int (nI m))] rfl ?_
  refine am_q_aload_n rfl rfl ?_
  refine am_q_aload_n rfl rfl ?_
  refine am_q_gl rfl rfl rfl hν ?_
  refine am_q_ldc2_w (v := lN 1103515245) rfl rfl ?_
  refine am_q_lmul rfl (lN_mul _ _) ?_
  refine am_q_ldc2_w (v := lN 12345) rfl rfl ?_
  refine am_q_ladd rfl (lN_add _ _) ?_
  refine am_q_ldc2_w (v := lN 2147483648) rfl rfl ?_
  refine am_q_lrem rfl (by decide) (pk_lRem (by omega) (by decide) (by decide)) ?_
  refine am_q_pl rfl rfl rfl ?_
  refine am_q_aload_n rfl rfl ?_
  refine am_q_gl rfl rfl rfl (show _ = lN (nx g) from upL_eq ν _) ?_
  refine am_q_ldc2_w (v := lN 65536) rfl rfl ?_
  refine am_q_ldiv rfl (by decide) (pk_lDiv (by omega) (by decide) (by decide)) ?_
  refine am_q_iload_n rfl rfl ?_
  refine am_q_i2l rfl (nI_l hm2) ?_
  refine am_q_lrem rfl (lN_ne0 hm hm2) (pk_lRem (by omega) hm (by omega)) ?_
  refine am_q_l2i rfl (lN_i _) ?_
  refine am_q_ireturn rfl rfl rfl ?_
  rfl

theorem m_ddA (d : Nat) (n : Nat) {V : sVal} {T : sWall} {μ : am_M2} (ν : am_N2) (hV : mVal μ V) (hO : vOk V) (hT : mWall μ 798 T) (hI : sI (vN V) (vP V) T.1 T.2.1) (x k q : Nat) (hk : k < vN V) (hq : q < vP V) (hx : x < 2) : am_w (d + 4) (Option.none : Option FieldType) am_g298 25 [some (.ref 133), some (.int (nI k)), some (.int (nI q)), some (.int (nI x))] [] (am_hp n μ ν) (fun y => ∃ (μ' : am_M2), y = (none, am_hp n μ' ν) ∧ mWall μ' 798 (dW V T (dO x) (nI k) (nI q)) ∧ fr μ μ') := by
  have h6 := hO.1.1
  have hP8 := hO.1.2.1
  have h8 := sI_8 hO hI
  have k4 := (hI k (by omega)).1
  have hix : am_ix (nI k) (vN V) = some k := am_ix_nI hk (by omega)
  have hiq : am_ix (nI q) (vP V) = some q := am_ix_nI hq (by omega)
  have hdo : dO x = 1 := if_pos hx
  refine am_q_iload_n rfl rfl ?_
  refine am_q_iconst (v := nI 2) rfl rfl ?_
  refine am_q_igeN rfl (by omega) (by omega) (fun c_27 => absurd c_27 (by omega)) (fun c_27 => ?_)
  refine am_q_aload_n rfl rfl ?_
  refine am_q_sipush (v := nI 798) rfl rfl ?_
  refine am_q_iload_n rfl rfl ?_
  refine am_q_call rfl rfl (m_isNowW _ n ν 798 (by decide) hT k (by omega)) rfl ?_
  refine am_q_zeqN rfl (by omega) (fun c_38 => ?_) (fun c_38 => ?_)
  · refine am_q_aload_n rfl rfl ?_
    refine am_q_sipush (v := nI 798) rfl rfl ?_
    refine am_q_iload_n rfl rfl ?_
    refine am_q_iconst (v := nI 1) rfl rfl ?_
    refine am_q_call rfl rfl (m_leave _ n 798 k (by decide) (by omega) _ _ _) rfl ?_
    refine am_q_goto rfl ?_
    refine am_q_return rfl rfl ?_
    have hd : dCan V T (dO x) (nI k) (nI q) = true := by rw [hdo]; show sIs (vN V) T.1 (nI k) 0 = true; rw [sIs_nI hk (by omega)]; exact decide_eq_true c_38
    rw [hdo] at hd ⊢
    rw [dW_y hd, dDo1 hix (Or.inl rfl)]
    exact ⟨_, rfl, mWall_set (by omega) rfl rfl hT, fr_B (frB_up2 (by omega))⟩
  · refine am_q_iload_n rfl rfl ?_
    refine am_q_iconst (v := nI 5) rfl rfl ?_
    refine am_q_ineN rfl (by omega) (by omega) (fun c_43 => ?_) (fun c_43 => absurd c_43 (by omega))
    refine am_q_iload_n rfl rfl ?_
    refine am_q_iconst (v := nI 1) rfl rfl ?_
    refine am_q_ileN rfl (by omega) (by omega) (fun c_72 => ?_) (fun c_72 => absurd c_72 (by omega))
    refine am_q_return rfl rfl ?_
    have hd : dCan V T (dO x) (nI k) (nI q) = false := by rw [hdo]; show sIs (vN V) T.1 (nI k) 0 = false; rw [sIs_nI hk (by omega)]; exact decide_eq_false c_38
    rw [hdo] at hd ⊢
    rw [dW_n hd]
    exact ⟨_, rfl, hT, fr_rf μ⟩

theorem m_ddB (d : Nat) (n : Nat) {V : sVal} {T : sWall} {μ : am_M2} (ν : am_N2) (hV : mVal μ V) (hO : vOk V) (hT : mWall μ 798 T) (hI : sI (vN V) (vP V) T.1 T.2.1) (x k q : Nat) (hk : k < vN V) (hq : q < vP V) (hx : x = 5) : am_w (d + 4) (Option.none : Option FieldType) am_g298 25 [some (.ref 133), some (.int (nI k)), some (.int (nI q)), some (.int (nI x))] [] (am_hp n μ ν) (fun y => ∃ (μ' : am_M2), y = (none, am_hp n μ' ν) ∧ mWall μ' 798 (dW V T (dO x) (nI k) (nI q)) ∧ fr μ μ') := by
  have h6 := hO.1.1
  have hP8 := hO.1.2.1
  have h8 := sI_8 hO hI
  have k4 := (hI k (by omega)).1
  have hix : am_ix (nI k) (vN V) = some k := am_ix_nI hk (by omega)
  have hiq : am_ix (nI q) (vP V) = some q := am_ix_nI hq (by omega)
  have hdo : dO x = 3 := by rw [hx]; rfl
  refine am_q_iload_n rfl rfl ?_
  refine am_q_iconst (v := nI 2) rfl rfl ?_
  refine am_q_igeN rfl (by omega) (by omega) (fun c_27 => ?_) (fun c_27 => absurd c_27 (by omega))
  refine am_q_iload_n rfl rfl ?_
  refine am_q_iconst (v := nI 5) rfl rfl ?_
  refine am_q_ineN rfl (by omega) (by omega) (fun c_43 => absurd c_43 (by omega)) (fun c_43 => ?_)
  refine am_q_aload_n rfl rfl ?_
  refine am_q_sipush (v := nI 798) rfl rfl ?_
  refine am_q_iload_n rfl rfl ?_
  refine am_q_call rfl rfl (m_isNowW _ n ν 798 (by decide) hT k (by omega)) rfl ?_
  refine am_q_iconst (v := nI 2) rfl rfl ?_
  refine am_q_ineN rfl (by omega) (by omega) (fun c_55 => ?_) (fun c_55 => ?_)
  · refine am_q_iload_n rfl rfl ?_
    refine am_q_iconst (v := nI 1) rfl rfl ?_
    refine am_q_ileN rfl (by omega) (by omega) (fun c_72 => absurd c_72 (by omega)) (fun c_72 => ?_)
    refine am_q_iload_n rfl rfl ?_
    refine am_q_iconst (v := nI 5) rfl rfl ?_
    refine am_q_igeN rfl (by omega) (by omega) (fun c_77 => ?_) (fun c_77 => absurd c_77 (by omega))
    refine am_q_return rfl rfl ?_
    have hd : dCan V T (dO x) (nI k) (nI q) = false := by rw [hdo]; show sIs (vN V) T.1 (nI k) 2 = false; rw [sIs_nI hk (by omega)]; exact decide_eq_false c_55
    rw [hdo] at hd ⊢
    rw [dW_n hd]
    exact ⟨_, rfl, hT, fr_rf μ⟩
  · refine am_q_aload_n rfl rfl ?_
    refine am_q_sipush (v := nI 798) rfl rfl ?_
    refine am_q_iload_n rfl rfl ?_
    refine am_q_iconst (v := nI 1) rfl rfl ?_
    refine am_q_call rfl rfl (m_leave _ n 798 k (by decide) (by omega) _ _ _) rfl ?_
    refine am_q_goto rfl ?_
    refine am_q_return rfl rfl ?_
    have hd : dCan V T (dO x) (nI k) (nI q) = true := by rw [hdo]; show sIs (vN V) T.1 (nI k) 2 = true; rw [sIs_nI hk (by omega)]; exact decide_eq_true c_55
    rw [hdo] at hd ⊢
    rw [dW_y hd, dDo1 hix (Or.inr rfl)]
    exact ⟨_, rfl, mWall_set (by omega) rfl rfl hT, fr_B (frB_up2 (by omega))⟩

theorem m_ddC (d : Nat) (n : Nat) {V : sVal} {T : sWall} {μ : am_M2} (ν : am_N2) (hV : mVal μ V) (hO : vOk V) (hT : mWall μ 798 T) (hI : sI (vN V) (vP V) T.1 T.2.1) (x k q : Nat) (hk : k < vN V) (hq : q < vP V) (hx : 2 ≤ x) (hx2 : x < 5) : am_w (d + 4) (Option.none : Option FieldType) am_g298 25 [some (.ref 133), some (.int (nI k)), some (.int (nI q)), some (.int (nI x))] [] (am_hp n μ ν) (fun y => ∃ (μ' : am_M2), y = (none, am_hp n μ' ν) ∧ mWall μ' 798 (dW V T (dO x) (nI k) (nI q)) ∧ fr μ μ') := by
  have h6 := hO.1.1
  have hP8 := hO.1.2.1
  have h8 := sI_8 hO hI
  have k4 := (hI k (by omega)).1
  have hix : am_ix (nI k) (vN V) = some k := am_ix_nI hk (by omega)
  have hiq : am_ix (nI q) (vP V) = some q := am_ix_nI hq (by omega)
  have hdo : dO x = 2 := by unfold dO; rw [if_neg (by omega), if_pos hx2]
  have e1 := sIs_nI (x := 1) (st := T.1) hk (by omega)
  have e3 := sIs_nI (x := 3) (st := T.1) hk (by omega)
  have hmy : dMay V T (nI k) (nI q) = sMay V T.2.1 k q := by rw [dMay_yes hix hiq]; unfold sOpen; rw [sBits_tb]; simp [hq]
  refine am_q_iload_n rfl rfl ?_
  refine am_q_iconst (v := nI 2) rfl rfl ?_
  refine am_q_igeN rfl (by omega) (by omega) (fun c_27 => ?_) (fun c_27 => absurd c_27 (by omega))
  refine am_q_iload_n rfl rfl ?_
  refine am_q_iconst (v := nI 5) rfl rfl ?_
  refine am_q_ineN rfl (by omega) (by omega) (fun c_43 => ?_) (fun c_43 => absurd c_43 (by omega))
  refine am_q_iload_n rfl rfl ?_
  refine am_q_iconst (v := nI 1) rfl rfl ?_
  refine am_q_ileN rfl (by omega) (by omega) (fun c_72 => absurd c_72 (by omega)) (fun c_72 => ?_)
  refine am_q_iload_n rfl rfl ?_
  refine am_q_iconst (v := nI 5) rfl rfl ?_
  refine am_q_igeN rfl (by omega) (by omega) (fun c_77 => absurd c_77 (by omega)) (fun c_77 => ?_)
  refine am_q_aload_n rfl rfl ?_
  refine am_q_sipush (v := nI 798) rfl rfl ?_
  refine am_q_iload_n rfl rfl ?_
  refine am_q_call rfl rfl (m_isLoose _ n ν 798 (by decide) hT k (by omega) k4) rfl ?_
  refine am_q_if_eqB rfl (fun c_88 => ?_) (fun c_88 => ?_)
  · refine am_q_return rfl rfl ?_
    have hd : dCan V T (dO x) (nI k) (nI q) = false := by rw [hdo]; show ((sIs (vN V) T.1 (nI k) 1 || sIs (vN V) T.1 (nI k) 3) && dMay V T (nI k) (nI q)) = false; rw [e1, e3, hmy, c_88]; rfl
    rw [hdo] at hd ⊢
    rw [dW_n hd]
    exact ⟨_, rfl, hT, fr_rf μ⟩
  · refine am_q_aload_n rfl rfl ?_
    refine am_q_sipush (v := nI 798) rfl rfl ?_
    refine am_q_iload_n rfl rfl ?_
    refine am_q_iload_n rfl rfl ?_
    refine am_q_call rfl rfl (m_mayStand _ n ν hV hO 798 (by decide) hT hI k hk q (by omega)) rfl ?_
    refine am_q_if_eqB rfl (fun c_100 => ?_) (fun c_100 => ?_)
    · refine am_q_return rfl rfl ?_
      have hd : dCan V T (dO x) (nI k) (nI q) = false := by rw [hdo]; show ((sIs (vN V) T.1 (nI k) 1 || sIs (vN V) T.1 (nI k) 3) && dMay V T (nI k) (nI q)) = false; rw [e1, e3, hmy, c_100, Bool.and_false]
      rw [hdo] at hd ⊢
      rw [dW_n hd]
      exact ⟨_, rfl, hT, fr_rf μ⟩
    · refine am_q_aload_n rfl rfl ?_
      refine am_q_sipush (v := nI 798) rfl rfl ?_
      refine am_q_iload_n rfl rfl ?_
      refine am_q_iload_n rfl rfl ?_
      refine am_q_call rfl rfl (m_stand _ n 798 k (by decide) (by omega) _ _ _) rfl ?_
      refine am_q_return rfl rfl ?_
      have hd : dCan V T (dO x) (nI k) (nI q) = true := by rw [hdo]; show ((sIs (vN V) T.1 (nI k) 1 || sIs (vN V) T.1 (nI k) 3) && dMay V T (nI k) (nI q)) = true; rw [e1, e3, hmy, c_88, c_100]; rfl
      rw [hdo] at hd ⊢
      rw [dW_y hd, dDo2 hix hiq]
      exact ⟨_, rfl, mWall_set (by omega) rfl rfl hT, fr_B (frB_up2 (by omega))⟩

theorem m_ddS (d : Nat) (n : Nat) {V : sVal} {T : sWall} {μ : am_M2} (ν : am_N2) (hV : mVal μ V) (hO : vOk V) (hT : mWall μ 798 T) (hI : sI (vN V) (vP V) T.1 T.2.1) (x k q : Nat) (hk : k < vN V) (hq : q < vP V) (hx : x < 6) : am_w (d + 4) (Option.none : Option FieldType) am_g298 25 [some (.ref 133), some (.int (nI k)), some (.int (nI q)), some (.int (nI x))] [] (am_hp n μ ν) (fun y => ∃ (μ' : am_M2), y = (none, am_hp n μ' ν) ∧ mWall μ' 798 (dW V T (dO x) (nI k) (nI q)) ∧ fr μ μ') := by
  rcases (show x < 2 ∨ x = 5 ∨ (2 ≤ x ∧ x < 5) by omega) with z | z | z
  · exact m_ddA d n ν hV hO hT hI x k q hk hq z
  · exact m_ddB d n ν hV hO hT hI x k q hk hq z
  · exact m_ddC d n ν hV hO hT hI x k q hk hq z.1 z.2
/-- StoneSecretsModel.drawsDeed()V -/
theorem m_draws (d : Nat) (n g : Nat) {V : sVal} {T : sWall} {μ : am_M2} (ν : am_N2) (hV : mVal μ V) (hO : vOk V) (hT : mWall μ 798 T) (hI : sI (vN V) (vP V) T.1 T.2.1) (hN : 0 < vN V) (hP : 0 < vP V) (hg : g < 2 ^ 31) (hν : ν 133 32 = lN g) : ∃ (μ' : am_M2), am_run (d + 5) 298 [.ref 133] (am_hp n μ ν) = some (none, am_hp n μ' (am_upL (am_upL (am_upL ν 133 32 (lN (nx g))) 133 32 (lN (nx (nx g)))) 133 32 (lN (nx (nx (nx g)))))) ∧ mWall μ' 798 (dW V T (dO (dr (nx (nx (nx g))) 6)) (nI (dr (nx g) (vN V))) (nI (dr (nx (nx g)) (vP V)))) ∧ fr μ μ' := by
  have h6 := hO.1.1
  have hP8 := hO.1.2.1
  have key : ∃ r, am_run (d + 5) 298 [.ref 133] (am_hp n μ ν) = some r ∧ ∃ (μ' : am_M2), r = (none, am_hp n μ' (am_upL (am_upL (am_upL ν 133 32 (lN (nx g))) 133 32 (lN (nx (nx g)))) 133 32 (lN (nx (nx (nx g)))))) ∧ mWall μ' 798 (dW V T (dO (dr (nx (nx (nx g))) 6)) (nI (dr (nx g) (vN V))) (nI (dr (nx (nx g)) (vP V)))) ∧ fr μ μ' := am_run_wE (k := 298) (d := d + 4) rfl rfl (Nat.le_of_ble_eq_true rfl) [some (.ref 133), none, none, none] rfl (by
    refine am_q_aload_n rfl rfl ?_
    refine am_q_aload_n rfl rfl ?_
    refine am_q_call rfl rfl (m_souls _ _ _ hV) rfl ?_
    refine am_q_call rfl rfl (m_draw _ n g (vN V) hg hN (by omega) μ ν hν) rfl ?_
    refine am_q_istore_n [some _, some _, none, none] rfl (Nat.le_of_ble_eq_true rfl) rfl ?_
    refine am_q_aload_n rfl rfl ?_
    refine am_q_aload_n rfl rfl ?_
    refine am_q_call rfl rfl (m_places _ _ _ hV) rfl ?_
    refine am_q_call rfl rfl (m_draw _ n (nx g) (vP V) (nx_lt _) hP (by omega) μ _ (upL_eq _ _)) rfl ?_
    refine am_q_istore_n [some _, some _, some _, none] rfl (Nat.le_of_ble_eq_true rfl) rfl ?_
    refine am_q_aload_n rfl rfl ?_
    refine am_q_bipush (v := nI 6) rfl rfl ?_
    refine am_q_call rfl rfl (m_draw _ n (nx (nx g)) 6 (nx_lt _) (by decide) (by decide) μ _ (upL_eq _ _)) rfl ?_
    refine am_q_istore_n [some _, some _, some _, some _] rfl (Nat.le_of_ble_eq_true rfl) rfl ?_
    exact m_ddS d n _ hV hO hT hI _ _ _ (Nat.mod_lt _ hN) (Nat.mod_lt _ hP) (Nat.mod_lt _ (by decide)))
  obtain ⟨r, h1, μ', h2, h3⟩ := key
  exact ⟨μ', by rw [h1, h2], h3⟩

theorem m_cenT (d n : Nat) {V : sVal} {T : sWall} {μ : am_M2} (ν : am_N2) (hV : mVal μ V) (hO : vOk V) (hT : mWall μ 798 T) (hI : sI (vN V) (vP V) T.1 T.2.1) (ht : T.2.2 < 2 ^ 30) (g w x fe j : Nat) (Q : am_R → Prop) (K : ∀ μ2, fr μ μ2 → mWall μ2 798 (wk V T (vCold V T.2.2)) → am_w (d + 6) (Option.some FieldType.int) am_g297 53 [some (.ref 133), some (.int (nI g)), some (.int (nI w)), some (.int (nI x)), some (.int (nI (fe + sn_bc (sBits (sFall V T.2.1 T.2.2 (vCold V T.2.2)) (vN V))))), some (.int (nI (j + 1)))] [] (am_hp n μ2 ν) Q) : am_w (d + 6) (Option.some FieldType.int) am_g297 77 [some (.ref 133), some (.int (nI g)), some (.int (nI w)), some (.int (nI x)), some (.int (nI fe)), some (.int (nI j))] [] (am_hp n μ ν) (Q) := by
  have h6 := hO.1.1
  have hP8 := hO.1.2.1
  refine am_q_iload rfl rfl ?_
  refine am_q_aload_n rfl rfl ?_
  refine am_q_sipush (v := nI 798) rfl rfl ?_
  obtain ⟨μ2, hc2, hf2, hW2⟩ := m_goesT _ n ν hV hO hT hI ht
  refine am_q_call rfl rfl (hc2) rfl ?_
  refine am_q_call rfl rfl (m_bits _ _ (sn_64 h6) _) rfl ?_
  refine am_q_iadd rfl (nI_add _ _) ?_
  refine am_q_istore [some _, some _, some _, some _, some _, some _] rfl (Nat.le_of_ble_eq_true rfl) rfl ?_
  refine am_q_iinc [some _, some _, some _, some _, some _, some _] rfl (c := nI 1) rfl rfl (Nat.le_of_ble_eq_true rfl) (nI_add _ _) rfl ?_
  refine am_q_goto rfl ?_
  exact K μ2 hf2 hW2

theorem cS_s (V : sVal) (W : sWall) (g j : Nat) : cS V W g (j + 1) = (wk V (cD V (cS V W g j).1 (cS V W g j).2.1) (vCold V (cD V (cS V W g j).1 (cS V W g j).2.1).2.2), cG V (cS V W g j).2.1, (cS V W g j).2.2 + sn_bc (sBits (sFall V (cD V (cS V W g j).1 (cS V W g j).2.1).2.1 (cD V (cS V W g j).1 (cS V W g j).2.1).2.2 (vCold V (cD V (cS V W g j).1 (cS V W g j).2.1).2.2)) (vN V))) := rfl
theorem m_cenL (d : Nat) (n : Nat) {V : sVal} {W : sWall} {μ : am_M2} (ν : am_N2) (hV : mVal μ V) (hO : vOk V) (hW : mWall μ 0 W) (hI : sI (vN V) (vP V) W.1 W.2.1) (ht : W.2.2 < 2 ^ 20) (g w x : Nat) (hg : g ≤ 9999) (hw1 : 1 ≤ w) (hw : w ≤ 99) (hx : x ≤ 2) : ∀ (m j : Nat) (μ1 : am_M2) (ν1 : am_N2), j + m = w → fr μ μ1 ∧ mWall μ1 798 (cS V W g j).1 ∧ ν1 133 32 = lN (cS V W g j).2.1 ∧ frL ν ν1 → am_w (d + 6) (Option.some FieldType.int) am_g297 53 [some (.ref 133), some (.int (nI g)), some (.int (nI w)), some (.int (nI x)), some (.int (nI ((cS V W g j).2.2))), some (.int (nI j))] [] (am_hp n μ1 ν1) (fun y => ∃ (μ' : am_M2) (ν' : am_N2), y = (some (.int (qCent V W (nI g) (nI w) (nI x))), am_hp n μ' ν') ∧ fr μ μ' ∧ frL ν ν') := by
  intro m
  induction m with
  | zero =>
    intro j μ1 ν1 hj hinv
    have h6 := hO.1.1
    have hP8 := hO.1.2.1
    have h8 := sI_8 hO hI
    have hpk := sI_p hI
    have hV0 := mVal_fr hinv.1 hV
    have hjw : j = w := by omega
    obtain ⟨i1, i2, i3⟩ := cS_I (g := g) hO hI (by omega) j
    have hT := hinv.2.1
    have hq0 : qCent V W (nI g) (nI w) (nI x) = (if nI x = nI 0 then nI (cS V W g j).2.2 else if nI x = nI 1 then nI (sn_bc (sBits (fun s => decide ((cS V W g j).1.1 s = 2)) (vN V))) else nI (sBits (fun s => decide ((cS V W g j).1.1 s = 4)) (vN V))) := by rw [qCent, if_pos (by rw [rIn_nI (by omega) (by decide) (by decide), rIn_nI (by omega) (by decide) (by decide), rIn_nI (by omega) (by decide) (by decide)]; simp; omega), ik_nI (by omega), ik_nI (by omega), hjw]
    rw [hq0]
    refine am_q_iload rfl rfl ?_
    refine am_q_iload_n rfl rfl ?_
    refine am_q_igeN rfl (by omega) (by omega) (fun c_56 => ?_) (fun c_56 => absurd c_56 (by omega))
    refine am_q_iload_n rfl rfl ?_
    refine am_q_zneN rfl (by omega) (fun c_99 => ?_) (fun c_99 => ?_)
    · refine am_q_iload_n rfl rfl ?_
      refine am_q_iconst (v := nI 1) rfl rfl ?_
      refine am_q_ineN rfl (by omega) (by omega) (fun c_109 => ?_) (fun c_109 => ?_)
      · refine am_q_aload_n rfl rfl ?_
        refine am_q_sipush (v := nI 798) rfl rfl ?_
        refine am_q_iconst (v := nI 4) rfl rfl ?_
        refine am_q_call rfl rfl (m_who _ n ν1 hV0 hO 798 (by decide) hT i1 4 (by decide)) rfl ?_
        refine am_q_ireturn rfl rfl rfl ?_
        rw [if_neg (fun z => by have := (nI_eq (by omega) (by decide)).mp z; omega), if_neg (fun z => by have := (nI_eq (by omega) (by decide)).mp z; omega)]
        exact ⟨_, _, rfl, hinv.1, hinv.2.2.2⟩
      · refine am_q_aload_n rfl rfl ?_
        refine am_q_sipush (v := nI 798) rfl rfl ?_
        refine am_q_iconst (v := nI 2) rfl rfl ?_
        refine am_q_call rfl rfl (m_who _ n ν1 hV0 hO 798 (by decide) hT i1 2 (by decide)) rfl ?_
        refine am_q_call rfl rfl (m_bits _ _ (sn_64 h6) _) rfl ?_
        refine am_q_goto rfl ?_
        refine am_q_ireturn rfl rfl rfl ?_
        rw [if_neg (fun z => by have := (nI_eq (by omega) (by decide)).mp z; omega), if_pos (by rw [c_109])]
        exact ⟨_, _, rfl, hinv.1, hinv.2.2.2⟩
    · refine am_q_iload rfl rfl ?_
      refine am_q_goto rfl ?_
      refine am_q_ireturn rfl rfl rfl ?_
      rw [if_pos (by rw [c_99])]
      exact ⟨_, _, rfl, hinv.1, hinv.2.2.2⟩
  | succ m ih =>
    intro j μ1 ν1 hj hinv
    have h6 := hO.1.1
    have hP8 := hO.1.2.1
    have h8 := sI_8 hO hI
    have hpk := sI_p hI
    have hV0 := mVal_fr hinv.1 hV
    obtain ⟨i1, i2, i3⟩ := cS_I (g := g) hO hI (by omega) j
    obtain ⟨c1, c2⟩ := cD_I (g := (cS V W g j).2.1) hO i1
    have hT := hinv.2.1
    refine am_q_iload rfl rfl ?_
    refine am_q_iload_n rfl rfl ?_
    refine am_q_igeN rfl (by omega) (by omega) (fun c_56 => absurd c_56 (by omega)) (fun c_56 => ?_)
    refine am_q_aload_n rfl rfl ?_
    refine am_q_call rfl rfl (m_souls _ _ _ hV0) rfl ?_
    refine am_q_zleN rfl (by omega) (fun c_63 => ?_) (fun c_63 => ?_)
    · have hcd : cD V (cS V W g j).1 (cS V W g j).2.1 = (cS V W g j).1 := if_neg (by omega)
      have hcg : cG V (cS V W g j).2.1 = (cS V W g j).2.1 := if_neg (by omega)
      first | (refine m_cenT d n _ (mVal_fr hf2 hV0) hO hW2 c1 (by omega) g w x _ j _ (fun μ3 hf3 hW3 => ?_); have e := ih (j + 1) μ3 (am_upL (am_upL (am_upL ν1 133 32 (lN (nx (cS V W g j).2.1))) 133 32 (lN (nx (nx (cS V W g j).2.1)))) 133 32 (lN (nx (nx (nx (cS V W g j).2.1))))) (by omega) ⟨fr_tr (fr_tr hinv.1 hf2) hf3, hW3, (by rw [cS_s]; show _ = lN (cG V _); rw [hcg]; exact upL_eq _ _), frL_tr hinv.2.2.2 (frL_tr (frL_tr (frL_up _ _) (frL_up _ _)) (frL_up _ _))⟩; rw [cS_s] at e; exact e) | (rw [← hcd] at hT; rw [hcd] at c1 c2; refine m_cenT d n ν1 hV0 hO (by rw [hcd] at hT; exact hT) c1 (by omega) g w x _ j _ (fun μ3 hf3 hW3 => ?_); have e := ih (j + 1) μ3 ν1 (by omega) ⟨fr_tr hinv.1 hf3, (by rw [cS_s, hcd]; exact hW3), (by rw [cS_s]; show _ = lN (cG V _); rw [hcg]; exact hinv.2.2.1), hinv.2.2.2⟩; rw [cS_s, hcd] at e; exact e)
    · refine am_q_aload_n rfl rfl ?_
      refine am_q_call rfl rfl (m_places _ _ _ hV0) rfl ?_
      refine am_q_zleN rfl (by omega) (fun c_70 => ?_) (fun c_70 => ?_)
      · have hcd : cD V (cS V W g j).1 (cS V W g j).2.1 = (cS V W g j).1 := if_neg (by omega)
        have hcg : cG V (cS V W g j).2.1 = (cS V W g j).2.1 := if_neg (by omega)
        first | (refine m_cenT d n _ (mVal_fr hf2 hV0) hO hW2 c1 (by omega) g w x _ j _ (fun μ3 hf3 hW3 => ?_); have e := ih (j + 1) μ3 (am_upL (am_upL (am_upL ν1 133 32 (lN (nx (cS V W g j).2.1))) 133 32 (lN (nx (nx (cS V W g j).2.1)))) 133 32 (lN (nx (nx (nx (cS V W g j).2.1))))) (by omega) ⟨fr_tr (fr_tr hinv.1 hf2) hf3, hW3, (by rw [cS_s]; show _ = lN (cG V _); rw [hcg]; exact upL_eq _ _), frL_tr hinv.2.2.2 (frL_tr (frL_tr (frL_up _ _) (frL_up _ _)) (frL_up _ _))⟩; rw [cS_s] at e; exact e) | (rw [← hcd] at hT; rw [hcd] at c1 c2; refine m_cenT d n ν1 hV0 hO (by rw [hcd] at hT; exact hT) c1 (by omega) g w x _ j _ (fun μ3 hf3 hW3 => ?_); have e := ih (j + 1) μ3 ν1 (by omega) ⟨fr_tr hinv.1 hf3, (by rw [cS_s, hcd]; exact hW3), (by rw [cS_s]; show _ = lN (cG V _); rw [hcg]; exact hinv.2.2.1), hinv.2.2.2⟩; rw [cS_s, hcd] at e; exact e)
      · have hcd : cD V (cS V W g j).1 (cS V W g j).2.1 = dW V (cS V W g j).1 (dO (dr (nx (nx (nx (cS V W g j).2.1))) 6)) (nI (dr (nx (cS V W g j).2.1) (vN V))) (nI (dr (nx (nx (cS V W g j).2.1)) (vP V))) := if_pos (by omega)
        have hcg : cG V (cS V W g j).2.1 = nx (nx (nx (cS V W g j).2.1)) := if_pos (by omega)
        obtain ⟨μ2, hc2, hW2, hf2⟩ := m_draws (d + 1) n (cS V W g j).2.1 ν1 hV0 hO hT i1 (by omega) (by omega) i3 hinv.2.2.1
        rw [← hcd] at hW2
        refine am_q_aload_n rfl rfl ?_
        refine am_q_call rfl rfl (hc2) rfl ?_
        first | (refine m_cenT d n _ (mVal_fr hf2 hV0) hO hW2 c1 (by omega) g w x _ j _ (fun μ3 hf3 hW3 => ?_); have e := ih (j + 1) μ3 (am_upL (am_upL (am_upL ν1 133 32 (lN (nx (cS V W g j).2.1))) 133 32 (lN (nx (nx (cS V W g j).2.1)))) 133 32 (lN (nx (nx (nx (cS V W g j).2.1))))) (by omega) ⟨fr_tr (fr_tr hinv.1 hf2) hf3, hW3, (by rw [cS_s]; show _ = lN (cG V _); rw [hcg]; exact upL_eq _ _), frL_tr hinv.2.2.2 (frL_tr (frL_tr (frL_up _ _) (frL_up _ _)) (frL_up _ _))⟩; rw [cS_s] at e; exact e) | (rw [← hcd] at hT; rw [hcd] at c1 c2; refine m_cenT d n ν1 hV0 hO (by rw [hcd] at hT; exact hT) c1 (by omega) g w x _ j _ (fun μ3 hf3 hW3 => ?_); have e := ih (j + 1) μ3 ν1 (by omega) ⟨fr_tr hinv.1 hf3, (by rw [cS_s, hcd]; exact hW3), (by rw [cS_s]; show _ = lN (cG V _); rw [hcg]; exact hinv.2.2.1), hinv.2.2.2⟩; rw [cS_s, hcd] at e; exact e)

/-- StoneSecretsModel.centuries(III)I -/
theorem m_centuries (d : Nat) (g w x : Int32) (n : Nat) {V : sVal} {W : sWall} {μ : am_M2} (ν : am_N2) (hV : mVal μ V) (hO : vOk V) (hW : mWall μ 0 W) (hI : sI (vN V) (vP V) W.1 W.2.1) (ht : W.2.2 < 2 ^ 20) : ∃ (μ' : am_M2) (ν' : am_N2), am_run (d + 7) 297 [.ref 133, .int g, .int w, .int x] (am_hp n μ ν) = some (some (.int (qCent V W g w x)), am_hp n μ' ν') ∧ fr μ μ' ∧ frL ν ν' := by
  have h6 := hO.1.1
  have hP8 := hO.1.2.1
  have h8 := sI_8 hO hI
  have hpk := sI_p hI
  have hV0 := mVal_fr (fr_thr μ) hV
  have hW0 := mWall_fr (fr_thr μ) (by decide) hW
  have key : ∃ r, am_run (d + 7) 297 [.ref 133, .int g, .int w, .int x] (am_hp n μ ν) = some r ∧ ∃ (μ' : am_M2) (ν' : am_N2), r = (some (.int (qCent V W g w x)), am_hp n μ' ν') ∧ fr μ μ' ∧ frL ν ν' := am_run_wE (k := 297) (d := d + 6) rfl rfl (Nat.le_of_ble_eq_true rfl) [some (.ref 133), some (.int g), some (.int w), some (.int x), none, none] rfl (by
    refine am_q_aload_n rfl rfl ?_
    refine am_q_iconst (v := nI 0) rfl rfl ?_
    refine am_q_pi rfl rfl rfl (Or.inl rfl) ?_
    refine am_q_iload_n rfl rfl ?_
    refine am_q_iconst (v := nI 0) rfl rfl ?_
    refine am_q_sipush (v := nI 9999) rfl rfl ?_
    refine am_q_call rfl rfl (m_within _ _ _ _ _) rfl ?_
    refine am_q_if_eqB rfl (fun c_13 => ?_) (fun c_13 => ?_)
    · refine am_q_iconst (v := -1) rfl rfl ?_
      refine am_q_ireturn rfl rfl rfl ?_
      rw [qCent, if_neg (by rw [c_13, Bool.false_and]; exact Bool.false_ne_true)]
      exact ⟨_, _, rfl, fr_thr μ, frL_rf ν⟩
    · obtain ⟨g1, -, hg, rfl⟩ := rIn_k c_13 (by decide) (by decide)
      refine am_q_iload_n rfl rfl ?_
      refine am_q_iconst (v := nI 1) rfl rfl ?_
      refine am_q_bipush (v := nI 99) rfl rfl ?_
      refine am_q_call rfl rfl (m_within _ _ _ _ _) rfl ?_
      refine am_q_if_eqB rfl (fun c_23 => ?_) (fun c_23 => ?_)
      · refine am_q_iconst (v := -1) rfl rfl ?_
        refine am_q_ireturn rfl rfl rfl ?_
        rw [qCent, if_neg (by rw [c_23, Bool.and_false, Bool.false_and]; exact Bool.false_ne_true)]
        exact ⟨_, _, rfl, fr_thr μ, frL_rf ν⟩
      · obtain ⟨w1, hw1, hw, rfl⟩ := rIn_k c_23 (by decide) (by decide)
        refine am_q_iload_n rfl rfl ?_
        refine am_q_iconst (v := nI 0) rfl rfl ?_
        refine am_q_iconst (v := nI 2) rfl rfl ?_
        refine am_q_call rfl rfl (m_within _ _ _ _ _) rfl ?_
        refine am_q_if_neB rfl (fun c_32 => ?_) (fun c_32 => ?_)
        · obtain ⟨x1, -, hx, rfl⟩ := rIn_k c_32 (by decide) (by decide)
          refine am_q_aload_n rfl rfl ?_
          obtain ⟨μ1, hc1, hf1, hW1⟩ := m_tries _ n ν hW0
          refine am_q_call rfl rfl (hc1) rfl ?_
          refine am_q_aload_n rfl rfl ?_
          refine am_q_iload_n rfl rfl ?_
          refine am_q_i2l rfl (nI_l (by omega)) ?_
          refine am_q_pl rfl rfl rfl ?_
          refine am_q_iconst (v := nI 0) rfl rfl ?_
          refine am_q_istore [some _, some _, some _, some _, some _, none] rfl (Nat.le_of_ble_eq_true rfl) rfl ?_
          refine am_q_iconst (v := nI 0) rfl rfl ?_
          refine am_q_istore [some _, some _, some _, some _, some _, some _] rfl (Nat.le_of_ble_eq_true rfl) rfl ?_
          exact m_cenL d n ν hV hO hW hI ht g1 w1 x1 hg hw1 hw hx w1 0 _ _ (by omega) ⟨fr_tr (fr_thr μ) hf1, hW1, upL_eq _ _, frL_up _ _⟩
        · refine am_q_iconst (v := -1) rfl rfl ?_
          refine am_q_ireturn rfl rfl rfl ?_
          rw [qCent, if_neg (by rw [c_32, Bool.and_false]; exact Bool.false_ne_true)]
          exact ⟨_, _, rfl, fr_thr μ, frL_rf ν⟩)
  obtain ⟨r, h1, μ', ν', h2, h3⟩ := key
  exact ⟨μ', ν', by rw [h1, h2], h3⟩
