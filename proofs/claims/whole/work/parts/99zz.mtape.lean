/-- the model's tape, kept -/
def frT (μ μ' : am_M2) : Prop := ∀ i k, (i = 134 ∨ (i = 133 ∧ k = 2)) → μ' i k = μ i k
theorem frT_tr {μ μ' μ'' : am_M2} (h : frT μ μ') (h' : frT μ' μ'') : frT μ μ'' := fun i k z => (h' i k z).trans (h i k z)
theorem frT_U {μ μ' : am_M2} (h : frU μ μ') : frT μ μ' := fun i k z => h i k (by omega) (by omega)
theorem frT_B {b : Nat} {μ μ' : am_M2} (h : frB b μ μ') : frT μ μ' := fun i k z => h i k (by omega) (by omega) (by omega)
theorem frT_up {i k : Nat} {μ : am_M2} {v : Int32} (h : ¬ (i = 134 ∨ (i = 133 ∧ k = 2))) : frT μ (am_up μ i k v) := fun i' k' z => am_up_ne (by omega)
theorem frT_rw {i : Nat} {μ : am_M2} {g : Nat → Int32} (h : i ≠ 134 ∧ i ≠ 133) : frT μ (am_rw μ i g) := fun i' k' z => by unfold am_rw; rw [if_neg (by omega)]
/-- StoneSecretsModel.tell(I)Z -/
theorem n_tell (d : Nat) (s : Int32) (n : Nat) {V : sVal} {W : sWall} {U : List sWall} {K : Nat → Option (sWall × sSeen)} {S : sSeen} {Y : sYear} {μ : am_M2} (ν : am_N2) (hR : mR μ V W U K S Y) (hO : vOk V) (hI : sI (vN V) (vP V) W.1 W.2.1) (ht : W.2.2 < 2 ^ 20) : ∃ (μ' : am_M2), am_run (d + 4) 226 [.ref 133, .int s] (am_hp n μ ν) = some (some (.int (sB (dCan V W 1 s (-1)))), am_hp n μ' ν) ∧ mR μ' V (dW V W 1 s (-1)) (dU V W U 1 s (-1)) K S Y ∧ frT μ μ' := by
  have hR0 := mR_fr (fr_thr μ) hR
  obtain ⟨hV, hW, hU, hK, hS, hY⟩ := hR
  obtain ⟨hV0, hW0, hU0, hK0, hS0, hY0⟩ := hR0
  have h6 := hO.1.1
  have hP8 := hO.1.2.1
  have h8 := sI_8 hO hI
  have hpk := sI_p hI
  have key : ∃ r, am_run (d + 4) 226 [.ref 133, .int s] (am_hp n μ ν) = some r ∧ ∃ (μ' : am_M2), r = (some (.int (sB (dCan V W 1 s (-1)))), am_hp n μ' ν) ∧ mR μ' V (dW V W 1 s (-1)) (dU V W U 1 s (-1)) K S Y ∧ frT μ μ' := am_run_wE (k := 226) (d := d + 3) rfl rfl (Nat.le_of_ble_eq_true rfl) [some (.ref 133), some (.int s)] rfl (by
    refine am_q_aload_n rfl rfl ?_
    refine am_q_iconst (v := nI 0) rfl rfl ?_
    refine am_q_pi rfl rfl rfl (Or.inl rfl) ?_
    refine am_q_aload_n rfl rfl ?_
    refine am_q_iload_n rfl rfl ?_
    refine am_q_call rfl rfl (m_isSoul _ _ _ _ hV0 hO) rfl ?_
    refine am_q_if_eqB rfl (fun c_10 => ?_) (fun c_10 => ?_)
    · refine am_q_iconst (v := nI 0) rfl rfl ?_
      refine am_q_ireturn rfl rfl rfl ?_
      have hd : dCan V W 1 s (-1) = false := by show sIs (vN V) W.1 s 0 = false; unfold sIs; rw [isN c_10]
      rw [hd, dW_n hd, dU_n hd]
      exact ⟨_, rfl, (mR_fr (fr_thr μ) ⟨hV, hW, hU, hK, hS, hY⟩), frT_up (by omega)⟩
    · obtain ⟨k, hk, rfl, hix⟩ := isI c_10 (by omega)
      have k4 := (hI k (by omega)).1
      refine am_q_aload_n rfl rfl ?_
      refine am_q_iconst (v := nI 0) rfl rfl ?_
      refine am_q_iload_n rfl rfl ?_
      refine am_q_call rfl rfl (m_isNowW _ n ν 0 (by decide) hW0 _ (by omega)) rfl ?_
      refine am_q_zeqN rfl (by omega) (fun c_19 => ?_) (fun c_19 => ?_)
      · refine am_q_aload_n rfl rfl ?_
        obtain ⟨μ1, hc1, hU1, hf1⟩ := m_keeps _ n ν hU0 hW0
        obtain ⟨hV1, hW1, hK1, hS1, hY1⟩ := mR_U hf1 hV0 hW0 hK0 hS0 hY0
        refine am_q_call rfl rfl (hc1) rfl ?_
        refine am_q_aload_n rfl rfl ?_
        refine am_q_iconst (v := nI 0) rfl rfl ?_
        refine am_q_iload_n rfl rfl ?_
        refine am_q_iconst (v := nI 1) rfl rfl ?_
        refine am_q_call rfl rfl (m_leave _ n 0 k (by decide) (by omega) _ _ _) rfl ?_
        refine am_q_iconst (v := nI 1) rfl rfl ?_
        refine am_q_ireturn rfl rfl rfl ?_
        have hd : dCan V W 1 (nI k) (-1) = true := by show sIs (vN V) W.1 (nI k) 0 = true; rw [sIs_nI hk (by omega)]; exact decide_eq_true c_19
        rw [hd, dW_y hd, dU_y hd, dDo1 hix (Or.inl rfl)]
        exact ⟨_, rfl, mR_B0 (frB_up2 (by omega)) hV1 (mWall_set (by omega) rfl rfl hW1) hU1 hK1 hS1 hY1, frT_tr (frT_tr (frT_up (by omega)) (frT_U hf1)) (frT_B (frB_up2 (b := 0) (by omega)))⟩
      · refine am_q_iconst (v := nI 0) rfl rfl ?_
        refine am_q_ireturn rfl rfl rfl ?_
        have hd : dCan V W 1 (nI k) (-1) = false := by show sIs (vN V) W.1 (nI k) 0 = false; rw [sIs_nI hk (by omega)]; exact decide_eq_false c_19
        rw [hd, dW_n hd, dU_n hd]
        exact ⟨_, rfl, (mR_fr (fr_thr μ) ⟨hV, hW, hU, hK, hS, hY⟩), frT_up (by omega)⟩)
  obtain ⟨r, h1, μ', h2, h3⟩ := key
  exact ⟨μ', by rw [h1, h2], h3⟩

/-- StoneSecretsModel.take(I)I -/
theorem n_take (d : Nat) (s : Int32) (n : Nat) {V : sVal} {W : sWall} {U : List sWall} {K : Nat → Option (sWall × sSeen)} {S : sSeen} {Y : sYear} {μ : am_M2} (ν : am_N2) (hR : mR μ V W U K S Y) (hO : vOk V) (hI : sI (vN V) (vP V) W.1 W.2.1) (ht : W.2.2 < 2 ^ 20) : ∃ (μ' : am_M2), am_run (d + 4) 236 [.ref 133, .int s] (am_hp n μ ν) = some (some (.int (qTake V W s)), am_hp n μ' ν) ∧ mR μ' V (dW V W 3 s (-1)) (dU V W U 3 s (-1)) K S Y ∧ frT μ μ' := by
  have hR0 := mR_fr (fr_thr μ) hR
  obtain ⟨hV, hW, hU, hK, hS, hY⟩ := hR
  obtain ⟨hV0, hW0, hU0, hK0, hS0, hY0⟩ := hR0
  have h6 := hO.1.1
  have hP8 := hO.1.2.1
  have h8 := sI_8 hO hI
  have hpk := sI_p hI
  have key : ∃ r, am_run (d + 4) 236 [.ref 133, .int s] (am_hp n μ ν) = some r ∧ ∃ (μ' : am_M2), r = (some (.int (qTake V W s)), am_hp n μ' ν) ∧ mR μ' V (dW V W 3 s (-1)) (dU V W U 3 s (-1)) K S Y ∧ frT μ μ' := am_run_wE (k := 236) (d := d + 3) rfl rfl (Nat.le_of_ble_eq_true rfl) [some (.ref 133), some (.int s), none] rfl (by
    refine am_q_aload_n rfl rfl ?_
    refine am_q_iconst (v := nI 0) rfl rfl ?_
    refine am_q_pi rfl rfl rfl (Or.inl rfl) ?_
    refine am_q_aload_n rfl rfl ?_
    refine am_q_iload_n rfl rfl ?_
    refine am_q_call rfl rfl (m_isSoul _ _ _ _ hV0 hO) rfl ?_
    refine am_q_if_eqB rfl (fun c_10 => ?_) (fun c_10 => ?_)
    · refine am_q_iconst (v := -1) rfl rfl ?_
      refine am_q_ireturn rfl rfl rfl ?_
      have hd : dCan V W 3 s (-1) = false := by show sIs (vN V) W.1 s 2 = false; unfold sIs; rw [isN c_10]
      rw [qTake, if_neg (by rw [hd]; exact Bool.false_ne_true), dW_n hd, dU_n hd]
      exact ⟨_, rfl, (mR_fr (fr_thr μ) ⟨hV, hW, hU, hK, hS, hY⟩), frT_up (by omega)⟩
    · obtain ⟨k, hk, rfl, hix⟩ := isI c_10 (by omega)
      have k4 := (hI k (by omega)).1
      refine am_q_aload_n rfl rfl ?_
      refine am_q_iconst (v := nI 0) rfl rfl ?_
      refine am_q_iload_n rfl rfl ?_
      refine am_q_call rfl rfl (m_isNowW _ n ν 0 (by decide) hW0 _ (by omega)) rfl ?_
      refine am_q_iconst (v := nI 2) rfl rfl ?_
      refine am_q_ieqN rfl (by omega) (by omega) (fun c_20 => ?_) (fun c_20 => ?_)
      · refine am_q_aload_n rfl rfl ?_
        obtain ⟨μ1, hc1, hU1, hf1⟩ := m_keeps _ n ν hU0 hW0
        obtain ⟨hV1, hW1, hK1, hS1, hY1⟩ := mR_U hf1 hV0 hW0 hK0 hS0 hY0
        refine am_q_call rfl rfl (hc1) rfl ?_
        refine am_q_aload_n rfl rfl ?_
        refine am_q_gr rfl rfl rfl ?_
        refine am_q_bipush (v := nI 7) rfl rfl ?_
        refine am_q_iload_n rfl rfl ?_
        refine am_q_iadd rfl (nI_add 7 k) ?_
        refine am_q_iald rfl rfl (am_ix_nI (show 7 + k < 836 by omega) (by decide)) (show μ1 145 (7 + k) = sn_place (W.2.1 k) from by rw [show 7 + k = 0 + 7 + k by omega]; exact (hW1.2 k (by omega)).2) ?_
        refine am_q_istore_n [some _, some _, some _] rfl (Nat.le_of_ble_eq_true rfl) rfl ?_
        refine am_q_aload_n rfl rfl ?_
        refine am_q_iconst (v := nI 0) rfl rfl ?_
        refine am_q_iload_n rfl rfl ?_
        refine am_q_iconst (v := nI 1) rfl rfl ?_
        refine am_q_call rfl rfl (m_leave _ n 0 k (by decide) (by omega) _ _ _) rfl ?_
        refine am_q_iload_n rfl rfl ?_
        refine am_q_ireturn rfl rfl rfl ?_
        have hd : dCan V W 3 (nI k) (-1) = true := by show sIs (vN V) W.1 (nI k) 2 = true; rw [sIs_nI hk (by omega)]; exact decide_eq_true c_20
        rw [qTake, if_pos hd, ik_nI (by omega), dW_y hd, dU_y hd, dDo1 hix (Or.inr rfl)]
        exact ⟨_, rfl, mR_B0 (frB_up2 (by omega)) hV1 (mWall_set (by omega) rfl rfl hW1) hU1 hK1 hS1 hY1, frT_tr (frT_tr (frT_up (by omega)) (frT_U hf1)) (frT_B (frB_up2 (b := 0) (by omega)))⟩
      · refine am_q_iconst (v := -1) rfl rfl ?_
        refine am_q_ireturn rfl rfl rfl ?_
        have hd : dCan V W 3 (nI k) (-1) = false := by show sIs (vN V) W.1 (nI k) 2 = false; rw [sIs_nI hk (by omega)]; exact decide_eq_false c_20
        rw [qTake, if_neg (by rw [hd]; exact Bool.false_ne_true), dW_n hd, dU_n hd]
        exact ⟨_, rfl, (mR_fr (fr_thr μ) ⟨hV, hW, hU, hK, hS, hY⟩), frT_up (by omega)⟩)
  obtain ⟨r, h1, μ', h2, h3⟩ := key
  exact ⟨μ', by rw [h1, h2], h3⟩

/-- StoneSecretsModel.sets(II)Z -/
theorem n_sets (d : Nat) (s p : Int32) (n : Nat) {V : sVal} {W : sWall} {U : List sWall} {K : Nat → Option (sWall × sSeen)} {S : sSeen} {Y : sYear} {μ : am_M2} (ν : am_N2) (hR : mR μ V W U K S Y) (hO : vOk V) (hI : sI (vN V) (vP V) W.1 W.2.1) (ht : W.2.2 < 2 ^ 20) : ∃ (μ' : am_M2), am_run (d + 5) 230 [.ref 133, .int s, .int p] (am_hp n μ ν) = some (some (.int (sB (dCan V W 2 s p))), am_hp n μ' ν) ∧ mR μ' V (dW V W 2 s p) (dU V W U 2 s p) K S Y ∧ frT μ μ' := by
  have hR0 := mR_fr (fr_thr μ) hR
  obtain ⟨hV, hW, hU, hK, hS, hY⟩ := hR
  obtain ⟨hV0, hW0, hU0, hK0, hS0, hY0⟩ := hR0
  have h6 := hO.1.1
  have hP8 := hO.1.2.1
  have h8 := sI_8 hO hI
  have hpk := sI_p hI
  have key : ∃ r, am_run (d + 5) 230 [.ref 133, .int s, .int p] (am_hp n μ ν) = some r ∧ ∃ (μ' : am_M2), r = (some (.int (sB (dCan V W 2 s p))), am_hp n μ' ν) ∧ mR μ' V (dW V W 2 s p) (dU V W U 2 s p) K S Y ∧ frT μ μ' := am_run_wE (k := 230) (d := d + 4) rfl rfl (Nat.le_of_ble_eq_true rfl) [some (.ref 133), some (.int s), some (.int p)] rfl (by
    refine am_q_aload_n rfl rfl ?_
    refine am_q_iconst (v := nI 0) rfl rfl ?_
    refine am_q_pi rfl rfl rfl (Or.inl rfl) ?_
    refine am_q_aload_n rfl rfl ?_
    refine am_q_iload_n rfl rfl ?_
    refine am_q_call rfl rfl (m_isSoul _ _ _ _ hV0 hO) rfl ?_
    refine am_q_if_eqB rfl (fun c_10 => ?_) (fun c_10 => ?_)
    · refine am_q_iconst (v := nI 0) rfl rfl ?_
      refine am_q_ireturn rfl rfl rfl ?_
      have hd : dCan V W 2 s p = false := by show ((sIs (vN V) W.1 s 1 || sIs (vN V) W.1 s 3) && dMay V W s p) = false; unfold sIs; rw [isN c_10]; rfl
      rw [hd, dW_n hd, dU_n hd]
      exact ⟨_, rfl, (mR_fr (fr_thr μ) ⟨hV, hW, hU, hK, hS, hY⟩), frT_up (by omega)⟩
    · obtain ⟨k, hk, rfl, hix⟩ := isI c_10 (by omega)
      have k4 := (hI k (by omega)).1
      have e1 := sIs_nI (x := 1) (st := W.1) hk (by omega)
      have e3 := sIs_nI (x := 3) (st := W.1) hk (by omega)
      refine am_q_aload_n rfl rfl ?_
      refine am_q_iload_n rfl rfl ?_
      refine am_q_call rfl rfl (m_isPlace _ _ _ _ hV0 hO) rfl ?_
      refine am_q_if_eqB rfl (fun c_18 => ?_) (fun c_18 => ?_)
      · refine am_q_iconst (v := nI 0) rfl rfl ?_
        refine am_q_ireturn rfl rfl rfl ?_
        have hd : dCan V W 2 (nI k) p = false := by show ((sIs (vN V) W.1 (nI k) 1 || sIs (vN V) W.1 (nI k) 3) && dMay V W (nI k) p) = false; rw [dMay_no c_18, Bool.and_false]
        rw [hd, dW_n hd, dU_n hd]
        exact ⟨_, rfl, (mR_fr (fr_thr μ) ⟨hV, hW, hU, hK, hS, hY⟩), frT_up (by omega)⟩
      · obtain ⟨q, hq, rfl, hiq⟩ := isI c_18 (by omega)
        have hmy : dMay V W (nI k) (nI q) = sMay V W.2.1 k q := by rw [dMay_yes hix hiq]; unfold sOpen; rw [sBits_tb]; simp [hq]
        refine am_q_aload_n rfl rfl ?_
        refine am_q_iconst (v := nI 0) rfl rfl ?_
        refine am_q_iload_n rfl rfl ?_
        refine am_q_call rfl rfl (m_isLoose _ n ν 0 (by decide) hW0 _ (by omega) (hI _ (by omega)).1) rfl ?_
        refine am_q_if_eqB rfl (fun c_27 => ?_) (fun c_27 => ?_)
        · refine am_q_iconst (v := nI 0) rfl rfl ?_
          refine am_q_ireturn rfl rfl rfl ?_
          have hd : dCan V W 2 (nI k) (nI q) = false := by show ((sIs (vN V) W.1 (nI k) 1 || sIs (vN V) W.1 (nI k) 3) && dMay V W (nI k) (nI q)) = false; rw [e1, e3, c_27]; rfl
          rw [hd, dW_n hd, dU_n hd]
          exact ⟨_, rfl, (mR_fr (fr_thr μ) ⟨hV, hW, hU, hK, hS, hY⟩), frT_up (by omega)⟩
        · refine am_q_aload_n rfl rfl ?_
          refine am_q_iconst (v := nI 0) rfl rfl ?_
          refine am_q_iload_n rfl rfl ?_
          refine am_q_iload_n rfl rfl ?_
          refine am_q_call rfl rfl (m_mayStand _ n ν hV0 hO 0 (by decide) hW0 hI _ (by omega) _ (by omega)) rfl ?_
          refine am_q_if_neB rfl (fun c_37 => ?_) (fun c_37 => ?_)
          · refine am_q_aload_n rfl rfl ?_
            obtain ⟨μ1, hc1, hU1, hf1⟩ := m_keeps _ n ν hU0 hW0
            obtain ⟨hV1, hW1, hK1, hS1, hY1⟩ := mR_U hf1 hV0 hW0 hK0 hS0 hY0
            refine am_q_call rfl rfl (hc1) rfl ?_
            refine am_q_aload_n rfl rfl ?_
            refine am_q_iconst (v := nI 0) rfl rfl ?_
            refine am_q_iload_n rfl rfl ?_
            refine am_q_iload_n rfl rfl ?_
            refine am_q_call rfl rfl (m_stand _ n 0 k (by decide) (by omega) _ _ _) rfl ?_
            refine am_q_iconst (v := nI 1) rfl rfl ?_
            refine am_q_ireturn rfl rfl rfl ?_
            have hd : dCan V W 2 (nI k) (nI q) = true := by show ((sIs (vN V) W.1 (nI k) 1 || sIs (vN V) W.1 (nI k) 3) && dMay V W (nI k) (nI q)) = true; rw [e1, e3, c_27, hmy, c_37]; rfl
            rw [hd, dW_y hd, dU_y hd, dDo2 hix hiq]
            exact ⟨_, rfl, mR_B0 (frB_up2 (by omega)) hV1 (mWall_set (by omega) rfl rfl hW1) hU1 hK1 hS1 hY1, frT_tr (frT_tr (frT_up (by omega)) (frT_U hf1)) (frT_B (frB_up2 (b := 0) (by omega)))⟩
          · refine am_q_iconst (v := nI 0) rfl rfl ?_
            refine am_q_ireturn rfl rfl rfl ?_
            have hd : dCan V W 2 (nI k) (nI q) = false := by show ((sIs (vN V) W.1 (nI k) 1 || sIs (vN V) W.1 (nI k) 3) && dMay V W (nI k) (nI q)) = false; rw [hmy, c_37, Bool.and_false]
            rw [hd, dW_n hd, dU_n hd]
            exact ⟨_, rfl, (mR_fr (fr_thr μ) ⟨hV, hW, hU, hK, hS, hY⟩), frT_up (by omega)⟩)
  obtain ⟨r, h1, μ', h2, h3⟩ := key
  exact ⟨μ', by rw [h1, h2], h3⟩

/-- StoneSecretsModel.week()I -/
theorem n_week (d : Nat) (n : Nat) {V : sVal} {W : sWall} {U : List sWall} {K : Nat → Option (sWall × sSeen)} {S : sSeen} {Y : sYear} {μ : am_M2} (ν : am_N2) (hR : mR μ V W U K S Y) (hO : vOk V) (hI : sI (vN V) (vP V) W.1 W.2.1) (ht : W.2.2 < 2 ^ 20) : ∃ (μ' : am_M2), am_run (d + 7) 237 [.ref 133] (am_hp n μ ν) = some (some (.int (nI (sBits (sFall V W.2.1 W.2.2 (vCold V W.2.2)) (vN V)))), am_hp n μ' ν) ∧ mR μ' V (dDo V W 0 (-1) (-1)) ((W :: U).take 16) K S Y ∧ frT μ μ' := by
  have hR0 := mR_fr (fr_thr μ) hR
  obtain ⟨hV, hW, hU, hK, hS, hY⟩ := hR
  obtain ⟨hV0, hW0, hU0, hK0, hS0, hY0⟩ := hR0
  have h6 := hO.1.1
  have hP8 := hO.1.2.1
  have h8 := sI_8 hO hI
  have hpk := sI_p hI
  have key : ∃ r, am_run (d + 7) 237 [.ref 133] (am_hp n μ ν) = some r ∧ ∃ (μ' : am_M2), r = (some (.int (nI (sBits (sFall V W.2.1 W.2.2 (vCold V W.2.2)) (vN V)))), am_hp n μ' ν) ∧ mR μ' V (dDo V W 0 (-1) (-1)) ((W :: U).take 16) K S Y ∧ frT μ μ' := am_run_wE (k := 237) (d := d + 6) rfl rfl (Nat.le_of_ble_eq_true rfl) [some (.ref 133)] rfl (by
    refine am_q_aload_n rfl rfl ?_
    refine am_q_iconst (v := nI 0) rfl rfl ?_
    refine am_q_pi rfl rfl rfl (Or.inl rfl) ?_
    refine am_q_aload_n rfl rfl ?_
    obtain ⟨μ1, hc1, hU1, hf1⟩ := m_keeps _ n ν hU0 hW0
    obtain ⟨hV1, hW1, hK1, hS1, hY1⟩ := mR_U hf1 hV0 hW0 hK0 hS0 hY0
    refine am_q_call rfl rfl (hc1) rfl ?_
    refine am_q_aload_n rfl rfl ?_
    refine am_q_iconst (v := nI 0) rfl rfl ?_
    obtain ⟨μ2, hc2, hW2, hf2⟩ := m_goes _ n ν hV1 hO 0 (by decide) hW1 hI (by omega)
    refine am_q_call rfl rfl (hc2) rfl ?_
    refine am_q_ireturn rfl rfl rfl ?_
    exact ⟨_, rfl, mR_B0 hf2 hV1 hW2 hU1 hK1 hS1 hY1, frT_tr (frT_tr (frT_up (by omega)) (frT_U hf1)) (frT_B hf2)⟩)
  obtain ⟨r, h1, μ', h2, h3⟩ := key
  exact ⟨μ', by rw [h1, h2], h3⟩

theorem n_undo0 (d : Nat) (n : Nat) {V : sVal} {W : sWall}  {K : Nat → Option (sWall × sSeen)} {S : sSeen} {Y : sYear} {μ : am_M2} (ν : am_N2) (hR : mR μ V W [] K S Y) (hO : vOk V) (hI : sI (vN V) (vP V) W.1 W.2.1) (ht : W.2.2 < 2 ^ 20) : ∃ (μ' : am_M2), am_run (d + 2) 245 [.ref 133] (am_hp n μ ν) = some (some (.int (sB false)), am_hp n μ' ν) ∧ mR μ' V W [] K S Y ∧ frT μ μ' := by
  have hR0 := mR_fr (fr_thr μ) hR
  obtain ⟨hV, hW, hU, hK, hS, hY⟩ := hR
  obtain ⟨hV0, hW0, hU0, hK0, hS0, hY0⟩ := hR0
  have h6 := hO.1.1
  have hP8 := hO.1.2.1
  have h8 := sI_8 hO hI
  have hpk := sI_p hI
  have key : ∃ r, am_run (d + 2) 245 [.ref 133] (am_hp n μ ν) = some r ∧ ∃ (μ' : am_M2), r = (some (.int (sB false)), am_hp n μ' ν) ∧ mR μ' V W [] K S Y ∧ frT μ μ' := am_run_wE (k := 245) (d := d + 1) rfl rfl (Nat.le_of_ble_eq_true rfl) [some (.ref 133)] rfl (by
    refine am_q_aload_n rfl rfl ?_
    refine am_q_iconst (v := nI 0) rfl rfl ?_
    refine am_q_pi rfl rfl rfl (Or.inl rfl) ?_
    refine am_q_aload_n rfl rfl ?_
    refine am_q_gi rfl rfl rfl (show _ = nI 0 from hU0.1) ?_
    refine am_q_zneN rfl (by omega) (fun c_9 => absurd c_9 (by omega)) (fun c_9 => ?_)
    refine am_q_iconst (v := nI 0) rfl rfl ?_
    refine am_q_ireturn rfl rfl rfl ?_
    exact ⟨_, rfl, (mR_fr (fr_thr μ) ⟨hV, hW, hU, hK, hS, hY⟩), frT_up (by omega)⟩)
  obtain ⟨r, h1, μ', h2, h3⟩ := key
  exact ⟨μ', by rw [h1, h2], h3⟩

theorem n_undo1 (d : Nat) (W0 : sWall) (n : Nat) {V : sVal} {W : sWall} {U : List sWall} {K : Nat → Option (sWall × sSeen)} {S : sSeen} {Y : sYear} {μ : am_M2} (ν : am_N2) (hR : mR μ V W (W0 :: U) K S Y) (hO : vOk V) (hI : sI (vN V) (vP V) W.1 W.2.1) (ht : W.2.2 < 2 ^ 20) : ∃ (μ' : am_M2), am_run (d + 2) 245 [.ref 133] (am_hp n μ ν) = some (some (.int (sB true)), am_hp n μ' ν) ∧ mR μ' V W0 U K S Y ∧ frT μ μ' := by
  have hl : U.length + 1 ≤ 16 := hR.2.2.1.2.1
  have hR0 := mR_fr (fr_thr μ) hR
  obtain ⟨hV, hW, hU, hK, hS, hY⟩ := hR
  obtain ⟨hV0, hW0, hU0, hK0, hS0, hY0⟩ := hR0
  have h6 := hO.1.1
  have hP8 := hO.1.2.1
  have h8 := sI_8 hO hI
  have hpk := sI_p hI
  have key : ∃ r, am_run (d + 2) 245 [.ref 133] (am_hp n μ ν) = some r ∧ ∃ (μ' : am_M2), r = (some (.int (sB true)), am_hp n μ' ν) ∧ mR μ' V W0 U K S Y ∧ frT μ μ' := am_run_wE (k := 245) (d := d + 1) rfl rfl (Nat.le_of_ble_eq_true rfl) [some (.ref 133)] rfl (by
    refine am_q_aload_n rfl rfl ?_
    refine am_q_iconst (v := nI 0) rfl rfl ?_
    refine am_q_pi rfl rfl rfl (Or.inl rfl) ?_
    refine am_q_aload_n rfl rfl ?_
    refine am_q_gi rfl rfl rfl (show _ = nI (U.length + 1) from hU0.1) ?_
    refine am_q_zneN rfl (by omega) (fun c_9 => ?_) (fun c_9 => absurd c_9 (by omega))
    refine am_q_aload_n rfl rfl ?_
    refine am_q_dupr rfl ?_
    refine am_q_gi rfl rfl rfl (show _ = nI (U.length + 1) from hU0.1) ?_
    refine am_q_iconst (v := nI 1) rfl rfl ?_
    refine am_q_isub rfl (nI_pred U.length) ?_
    refine am_q_pi rfl rfl rfl (Or.inl rfl) ?_
    refine am_q_aload_n rfl rfl ?_
    refine am_q_bipush (v := nI 38) rfl rfl ?_
    refine am_q_iconst (v := nI 5) rfl rfl ?_
    refine am_q_aload_n rfl rfl ?_
    refine am_q_gi rfl rfl rfl (show _ = nI U.length from rfl) ?_
    refine am_q_iadd rfl (nI_add _ _) ?_
    refine am_q_imul rfl (pk_mul _ _) ?_
    refine am_q_iconst (v := nI 0) rfl rfl ?_
    refine am_q_bipush (v := nI 13) rfl rfl ?_
    refine am_q_call rfl rfl (m_copies _ n (38 * (5 + U.length)) 0 13 _ _ (by omega) (by decide) (by omega)) rfl ?_
    refine am_q_iconst (v := nI 1) rfl rfl ?_
    refine am_q_ireturn rfl rfl rfl ?_
    exact ⟨_, rfl, mUndo_pop ⟨hV0, hW0, hU0, hK0, hS0, hY0⟩, frT_tr (frT_tr (frT_up (by omega)) (frT_up (by omega))) (frT_rw (by omega))⟩)
  obtain ⟨r, h1, μ', h2, h3⟩ := key
  exact ⟨μ', by rw [h1, h2], h3⟩

theorem n_undo (d : Nat) (n : Nat) {V : sVal} {W : sWall} {U : List sWall} {K : Nat → Option (sWall × sSeen)} {S : sSeen} {Y : sYear} {μ : am_M2} (ν : am_N2) (hR : mR μ V W U K S Y) (hO : vOk V) (hI : sI (vN V) (vP V) W.1 W.2.1) (ht : W.2.2 < 2 ^ 20) : ∃ μ', am_run (d + 2) 245 [.ref 133] (am_hp n μ ν) = some (some (.int (sB (!U.isEmpty))), am_hp n μ' ν) ∧ mR μ' V (uW W U) U.tail K S Y ∧ frT μ μ' := by
  cases U with
  | nil => exact n_undo0 d n ν hR hO hI ht
  | cons W0 U => exact n_undo1 d W0 n ν hR hO hI ht
theorem n_mark_o (d : Nat) (m : Int32) (b : Bool) (n : Nat) {V : sVal} {W : sWall} {U : List sWall} {K : Nat → Option (sWall × sSeen)} {S : sSeen} {Y : sYear} {μ : am_M2} (ν : am_N2) (hR : mR μ V W U K S Y) (hO : vOk V) (hI : sI (vN V) (vP V) W.1 W.2.1) (ht : W.2.2 < 2 ^ 20) (hm : am_ix m 4 = none) : ∃ (μ' : am_M2), am_run (d + 2) 300 [.ref 133, .int m, .int (sB (b))] (am_hp n μ ν) = some (some (.int (sB false)), am_hp n μ' ν) ∧ mR μ' V W U K S Y ∧ frT μ μ' := by
  have hR0 := mR_fr (fr_thr μ) hR
  obtain ⟨hV, hW, hU, hK, hS, hY⟩ := hR
  obtain ⟨hV0, hW0, hU0, hK0, hS0, hY0⟩ := hR0
  have h6 := hO.1.1
  have hP8 := hO.1.2.1
  have h8 := sI_8 hO hI
  have hpk := sI_p hI
  have hwn : rIn m 0 3 = false := by rw [rIn_ix (by decide), hm]; rfl
  have key : ∃ r, am_run (d + 2) 300 [.ref 133, .int m, .int (sB (b))] (am_hp n μ ν) = some r ∧ ∃ (μ' : am_M2), r = (some (.int (sB false)), am_hp n μ' ν) ∧ mR μ' V W U K S Y ∧ frT μ μ' := am_run_wE (k := 300) (d := d + 1) rfl rfl (Nat.le_of_ble_eq_true rfl) [some (.ref 133), some (.int m), some (.int (sB (b)))] rfl (by
    refine am_q_aload_n rfl rfl ?_
    refine am_q_iconst (v := nI 0) rfl rfl ?_
    refine am_q_pi rfl rfl rfl (Or.inl rfl) ?_
    refine am_q_iload_n rfl rfl ?_
    refine am_q_iconst (v := nI 0) rfl rfl ?_
    refine am_q_iconst (v := nI 3) rfl rfl ?_
    refine am_q_call rfl rfl (m_within _ _ _ _ _) rfl ?_
    refine am_q_if_eqB rfl (fun c_11 => ?_) (fun c_11 => by rw [hwn] at c_11; cases c_11)
    refine am_q_iconst (v := nI 0) rfl rfl ?_
    refine am_q_ireturn rfl rfl rfl ?_
    exact ⟨_, rfl, (mR_fr (fr_thr μ) ⟨hV, hW, hU, hK, hS, hY⟩), frT_up (by omega)⟩)
  obtain ⟨r, h1, μ', h2, h3⟩ := key
  exact ⟨μ', by rw [h1, h2], h3⟩

theorem n_mark_g0 (d : Nat) (k : Nat) (hk : k < 4) (n : Nat) {V : sVal} {W : sWall} {U : List sWall} {K : Nat → Option (sWall × sSeen)} {S : sSeen} {Y : sYear} {μ : am_M2} (ν : am_N2) (hR : mR μ V W U K S Y) (hO : vOk V) (hI : sI (vN V) (vP V) W.1 W.2.1) (ht : W.2.2 < 2 ^ 20) (hz : (K k).isSome = false) : ∃ (μ' : am_M2), am_run (d + 2) 300 [.ref 133, .int (nI k), .int (sB (true))] (am_hp n μ ν) = some (some (.int (sB false)), am_hp n μ' ν) ∧ mR μ' V W U K S Y ∧ frT μ μ' := by
  have hR0 := mR_fr (fr_thr μ) hR
  obtain ⟨hV, hW, hU, hK, hS, hY⟩ := hR
  obtain ⟨hV0, hW0, hU0, hK0, hS0, hY0⟩ := hR0
  have h6 := hO.1.1
  have hP8 := hO.1.2.1
  have h8 := sI_8 hO hI
  have hpk := sI_p hI
  have hrk : rIn (nI k) 0 3 = true := by rw [rIn_ix (by decide), am_ix_nI hk (by decide)]; rfl
  have key : ∃ r, am_run (d + 2) 300 [.ref 133, .int (nI k), .int (sB (true))] (am_hp n μ ν) = some r ∧ ∃ (μ' : am_M2), r = (some (.int (sB false)), am_hp n μ' ν) ∧ mR μ' V W U K S Y ∧ frT μ μ' := am_run_wE (k := 300) (d := d + 1) rfl rfl (Nat.le_of_ble_eq_true rfl) [some (.ref 133), some (.int (nI k)), some (.int (sB (true)))] rfl (by
    refine am_q_aload_n rfl rfl ?_
    refine am_q_iconst (v := nI 0) rfl rfl ?_
    refine am_q_pi rfl rfl rfl (Or.inl rfl) ?_
    refine am_q_iload_n rfl rfl ?_
    refine am_q_iconst (v := nI 0) rfl rfl ?_
    refine am_q_iconst (v := nI 3) rfl rfl ?_
    refine am_q_call rfl rfl (m_within _ _ _ _ _) rfl ?_
    refine am_q_if_eqB rfl (fun c_11 => by rw [hrk] at c_11; cases c_11) (fun c_11 => ?_)
    refine am_q_iload_n rfl rfl ?_
    refine am_q_if_eqB rfl (fun c_15 => by simp at c_15) (fun c_15 => ?_)
    refine am_q_aload_n rfl rfl ?_
    refine am_q_gr rfl rfl rfl ?_
    refine am_q_iload_n rfl rfl ?_
    refine am_q_zald rfl rfl (by first | exact am_ix_nI (by omega) (by omega) | rfl) (hK0 k hk).1 ?_
    refine am_q_if_neB rfl (fun c_24 => by rw [hz] at c_24; cases c_24) (fun c_24 => ?_)
    refine am_q_iconst (v := nI 0) rfl rfl ?_
    refine am_q_ireturn rfl rfl rfl ?_
    exact ⟨_, rfl, (mR_fr (fr_thr μ) ⟨hV, hW, hU, hK, hS, hY⟩), frT_up (by omega)⟩)
  obtain ⟨r, h1, μ', h2, h3⟩ := key
  exact ⟨μ', by rw [h1, h2], h3⟩

theorem n_mark_g1 (d : Nat) (k : Nat) (hk : k < 4) (W0 : sWall) (S0 : sSeen) (n : Nat) {V : sVal} {W : sWall} {U : List sWall} {K : Nat → Option (sWall × sSeen)} {S : sSeen} {Y : sYear} {μ : am_M2} (ν : am_N2) (hR : mR μ V W U K S Y) (hO : vOk V) (hI : sI (vN V) (vP V) W.1 W.2.1) (ht : W.2.2 < 2 ^ 20) (hz : K k = some (W0, S0)) : ∃ (μ' : am_M2), am_run (d + 2) 300 [.ref 133, .int (nI k), .int (sB (true))] (am_hp n μ ν) = some (some (.int (sB true)), am_hp n μ' ν) ∧ mR μ' V W0 [] K S0 Y ∧ frT μ μ' := by
  have hR0 := mR_fr (fr_thr μ) hR
  obtain ⟨hV, hW, hU, hK, hS, hY⟩ := hR
  obtain ⟨hV0, hW0, hU0, hK0, hS0, hY0⟩ := hR0
  have h6 := hO.1.1
  have hP8 := hO.1.2.1
  have h8 := sI_8 hO hI
  have hpk := sI_p hI
  have hrk : rIn (nI k) 0 3 = true := by rw [rIn_ix (by decide), am_ix_nI hk (by decide)]; rfl
  have key : ∃ r, am_run (d + 2) 300 [.ref 133, .int (nI k), .int (sB (true))] (am_hp n μ ν) = some r ∧ ∃ (μ' : am_M2), r = (some (.int (sB true)), am_hp n μ' ν) ∧ mR μ' V W0 [] K S0 Y ∧ frT μ μ' := am_run_wE (k := 300) (d := d + 1) rfl rfl (Nat.le_of_ble_eq_true rfl) [some (.ref 133), some (.int (nI k)), some (.int (sB (true)))] rfl (by
    refine am_q_aload_n rfl rfl ?_
    refine am_q_iconst (v := nI 0) rfl rfl ?_
    refine am_q_pi rfl rfl rfl (Or.inl rfl) ?_
    refine am_q_iload_n rfl rfl ?_
    refine am_q_iconst (v := nI 0) rfl rfl ?_
    refine am_q_iconst (v := nI 3) rfl rfl ?_
    refine am_q_call rfl rfl (m_within _ _ _ _ _) rfl ?_
    refine am_q_if_eqB rfl (fun c_11 => by rw [hrk] at c_11; cases c_11) (fun c_11 => ?_)
    refine am_q_iload_n rfl rfl ?_
    refine am_q_if_eqB rfl (fun c_15 => by simp at c_15) (fun c_15 => ?_)
    refine am_q_aload_n rfl rfl ?_
    refine am_q_gr rfl rfl rfl ?_
    refine am_q_iload_n rfl rfl ?_
    refine am_q_zald rfl rfl (by first | exact am_ix_nI (by omega) (by omega) | rfl) (hK0 k hk).1 ?_
    refine am_q_if_neB rfl (fun c_24 => ?_) (fun c_24 => by rw [hz] at c_24; cases c_24)
    refine am_q_aload_n rfl rfl ?_
    refine am_q_gr rfl rfl rfl ?_
    refine am_q_iload_n rfl rfl ?_
    refine am_q_iconst (v := nI 1) rfl rfl ?_
    refine am_q_zast rfl rfl (by first | exact am_ix_nI (by omega) (by omega) | rfl) rfl ?_
    refine am_q_aload_n rfl rfl ?_
    refine am_q_iload_n rfl rfl ?_
    refine am_q_if_eqB rfl (fun c_38 => by simp at c_38) (fun c_38 => ?_)
    refine am_q_bipush (v := nI 38) rfl rfl ?_
    refine am_q_iconst (v := nI 1) rfl rfl ?_
    refine am_q_iload_n rfl rfl ?_
    refine am_q_iadd rfl (nI_add _ _) ?_
    refine am_q_imul rfl (pk_mul _ _) ?_
    refine am_q_goto rfl ?_
    refine am_q_iload_n rfl rfl ?_
    refine am_q_if_eqB rfl (fun c_52 => by simp at c_52) (fun c_52 => ?_)
    refine am_q_iconst (v := nI 0) rfl rfl ?_
    refine am_q_goto rfl ?_
    refine am_q_bipush (v := nI 38) rfl rfl ?_
    refine am_q_call rfl rfl (m_copies _ n (38 * (1 + k)) 0 38 _ _ (by omega) (by decide) (by omega)) rfl ?_
    refine am_q_aload_n rfl rfl ?_
    refine am_q_iload_n rfl rfl ?_
    refine am_q_if_eqB rfl (fun c_72 => by simp at c_72) (fun c_72 => ?_)
    refine am_q_iconst (v := nI 0) rfl rfl ?_
    refine am_q_goto rfl ?_
    refine am_q_pi rfl rfl rfl (Or.inl rfl) ?_
    refine am_q_iconst (v := nI 1) rfl rfl ?_
    refine am_q_ireturn rfl rfl rfl ?_
    exact ⟨_, rfl, mMark_back hk hz ⟨hV0, hW0, hU0, hK0, hS0, hY0⟩, frT_tr (frT_tr (frT_tr (frT_up (by omega)) (frT_up (by omega))) (frT_rw (by omega))) (frT_up (by omega))⟩)
  obtain ⟨r, h1, μ', h2, h3⟩ := key
  exact ⟨μ', by rw [h1, h2], h3⟩

theorem n_mark_l (d : Nat) (k : Nat) (hk : k < 4) (n : Nat) {V : sVal} {W : sWall} {U : List sWall} {K : Nat → Option (sWall × sSeen)} {S : sSeen} {Y : sYear} {μ : am_M2} (ν : am_N2) (hR : mR μ V W U K S Y) (hO : vOk V) (hI : sI (vN V) (vP V) W.1 W.2.1) (ht : W.2.2 < 2 ^ 20) : ∃ (μ' : am_M2), am_run (d + 2) 300 [.ref 133, .int (nI k), .int (sB (false))] (am_hp n μ ν) = some (some (.int (sB true)), am_hp n μ' ν) ∧ mR μ' V W U (fup K k (some (W, S))) S Y ∧ frT μ μ' := by
  have hR0 := mR_fr (fr_thr μ) hR
  obtain ⟨hV, hW, hU, hK, hS, hY⟩ := hR
  obtain ⟨hV0, hW0, hU0, hK0, hS0, hY0⟩ := hR0
  have h6 := hO.1.1
  have hP8 := hO.1.2.1
  have h8 := sI_8 hO hI
  have hpk := sI_p hI
  have hrk : rIn (nI k) 0 3 = true := by rw [rIn_ix (by decide), am_ix_nI hk (by decide)]; rfl
  have key : ∃ r, am_run (d + 2) 300 [.ref 133, .int (nI k), .int (sB (false))] (am_hp n μ ν) = some r ∧ ∃ (μ' : am_M2), r = (some (.int (sB true)), am_hp n μ' ν) ∧ mR μ' V W U (fup K k (some (W, S))) S Y ∧ frT μ μ' := am_run_wE (k := 300) (d := d + 1) rfl rfl (Nat.le_of_ble_eq_true rfl) [some (.ref 133), some (.int (nI k)), some (.int (sB (false)))] rfl (by
    refine am_q_aload_n rfl rfl ?_
    refine am_q_iconst (v := nI 0) rfl rfl ?_
    refine am_q_pi rfl rfl rfl (Or.inl rfl) ?_
    refine am_q_iload_n rfl rfl ?_
    refine am_q_iconst (v := nI 0) rfl rfl ?_
    refine am_q_iconst (v := nI 3) rfl rfl ?_
    refine am_q_call rfl rfl (m_within _ _ _ _ _) rfl ?_
    refine am_q_if_eqB rfl (fun c_11 => by rw [hrk] at c_11; cases c_11) (fun c_11 => ?_)
    refine am_q_iload_n rfl rfl ?_
    refine am_q_if_eqB rfl (fun c_15 => ?_) (fun c_15 => by simp at c_15)
    refine am_q_aload_n rfl rfl ?_
    refine am_q_gr rfl rfl rfl ?_
    refine am_q_iload_n rfl rfl ?_
    refine am_q_iconst (v := nI 1) rfl rfl ?_
    refine am_q_zast rfl rfl (by first | exact am_ix_nI (by omega) (by omega) | rfl) rfl ?_
    refine am_q_aload_n rfl rfl ?_
    refine am_q_iload_n rfl rfl ?_
    refine am_q_if_eqB rfl (fun c_38 => ?_) (fun c_38 => by simp at c_38)
    refine am_q_iconst (v := nI 0) rfl rfl ?_
    refine am_q_iload_n rfl rfl ?_
    refine am_q_if_eqB rfl (fun c_52 => ?_) (fun c_52 => by simp at c_52)
    refine am_q_bipush (v := nI 38) rfl rfl ?_
    refine am_q_iconst (v := nI 1) rfl rfl ?_
    refine am_q_iload_n rfl rfl ?_
    refine am_q_iadd rfl (nI_add _ _) ?_
    refine am_q_imul rfl (pk_mul _ _) ?_
    refine am_q_bipush (v := nI 38) rfl rfl ?_
    refine am_q_call rfl rfl (m_copies _ n 0 (38 * (1 + k)) 38 _ _ (by decide) (by omega) (by omega)) rfl ?_
    refine am_q_aload_n rfl rfl ?_
    refine am_q_iload_n rfl rfl ?_
    refine am_q_if_eqB rfl (fun c_72 => ?_) (fun c_72 => by simp at c_72)
    refine am_q_aload_n rfl rfl ?_
    refine am_q_gi rfl rfl rfl rfl ?_
    refine am_q_pi rfl rfl rfl (Or.inl rfl) ?_
    refine am_q_iconst (v := nI 1) rfl rfl ?_
    refine am_q_ireturn rfl rfl rfl ?_
    exact ⟨_, rfl, mMark_lay hk rfl ⟨hV0, hW0, hU0, hK0, hS0, hY0⟩, frT_tr (frT_tr (frT_tr (frT_up (by omega)) (frT_up (by omega))) (frT_rw (by omega))) (frT_up (by omega))⟩)
  obtain ⟨r, h1, μ', h2, h3⟩ := key
  exact ⟨μ', by rw [h1, h2], h3⟩

theorem n_mark (d : Nat) (m : Int32) (b : Bool) (n : Nat) {V : sVal} {W : sWall} {U : List sWall} {K : Nat → Option (sWall × sSeen)} {S : sSeen} {Y : sYear} {μ : am_M2} (ν : am_N2) (hR : mR μ V W U K S Y) (hO : vOk V) (hI : sI (vN V) (vP V) W.1 W.2.1) (ht : W.2.2 < 2 ^ 20) : ∃ μ', am_run (d + 2) 300 [.ref 133, .int m, .int (sB b)] (am_hp n μ ν) = some (some (.int (sB (mkOk K m b))), am_hp n μ' ν) ∧ mR μ' V (mkDo W U K S m b).1 (mkDo W U K S m b).2.1 (mkDo W U K S m b).2.2.1 (mkDo W U K S m b).2.2.2 Y ∧ frT μ μ' := by
  rcases sn_ix m (N := 4) (by decide) with ⟨h, -⟩ | ⟨k, hk, rfl, hix⟩
  · have := n_mark_o d m b n ν hR hO hI ht h
    unfold mkOk mkDo
    rw [h]
    exact this
  · unfold mkOk mkDo
    rw [hix]
    cases b with
    | false => exact n_mark_l d k hk n ν hR hO hI ht
    | true =>
      cases hz : K k with
      | none =>
        have := n_mark_g0 d k hk n ν hR hO hI ht (by rw [hz]; rfl)
        simp only [hz]
        exact this
      | some x =>
        have := n_mark_g1 d k hk x.1 x.2 n ν hR hO hI ht hz
        simp only [hz]
        exact this
/-- StoneSecretsModel.see(IIZ)Z -/
theorem n_see (d : Nat) (p w : Int32) (b : Bool) (n : Nat) {V : sVal} {W : sWall} {U : List sWall} {K : Nat → Option (sWall × sSeen)} {S : sSeen} {Y : sYear} {μ : am_M2} (ν : am_N2) (hR : mR μ V W U K S Y) (hO : vOk V) (hI : sI (vN V) (vP V) W.1 W.2.1) (ht : W.2.2 < 2 ^ 20) : ∃ (μ' : am_M2), am_run (d + 3) 272 [.ref 133, .int p, .int w, .int (sB (b))] (am_hp n μ ν) = some (some (.int (sB (seeOk V S p w))), am_hp n μ' ν) ∧ mR μ' V W U K (seeS V S p w b) Y ∧ frT μ μ' := by
  have hS8 : S.1 ≤ 8 := hR.2.2.2.2.1.2.1
  have hR0 := mR_fr (fr_thr μ) hR
  obtain ⟨hV, hW, hU, hK, hS, hY⟩ := hR
  obtain ⟨hV0, hW0, hU0, hK0, hS0, hY0⟩ := hR0
  have h6 := hO.1.1
  have hP8 := hO.1.2.1
  have h8 := sI_8 hO hI
  have hpk := sI_p hI
  have key : ∃ r, am_run (d + 3) 272 [.ref 133, .int p, .int w, .int (sB (b))] (am_hp n μ ν) = some r ∧ ∃ (μ' : am_M2), r = (some (.int (sB (seeOk V S p w))), am_hp n μ' ν) ∧ mR μ' V W U K (seeS V S p w b) Y ∧ frT μ μ' := am_run_wE (k := 272) (d := d + 2) rfl rfl (Nat.le_of_ble_eq_true rfl) [some (.ref 133), some (.int p), some (.int w), some (.int (sB (b))), none] rfl (by
    refine am_q_aload_n rfl rfl ?_
    refine am_q_iconst (v := nI 0) rfl rfl ?_
    refine am_q_pi rfl rfl rfl (Or.inl rfl) ?_
    refine am_q_aload_n rfl rfl ?_
    refine am_q_iload_n rfl rfl ?_
    refine am_q_call rfl rfl (m_isPlace _ _ _ _ hV0 hO) rfl ?_
    refine am_q_if_eqB rfl (fun c_10 => ?_) (fun c_10 => ?_)
    · refine am_q_iconst (v := nI 0) rfl rfl ?_
      refine am_q_ireturn rfl rfl rfl ?_
      have hd : seeOk V S p w = false := by unfold seeOk; rw [c_10]; rfl
      rw [hd, show seeS V S p w b = S from if_neg (by rw [hd]; exact Bool.false_ne_true)]
      exact ⟨_, rfl, (mR_fr (fr_thr μ) ⟨hV, hW, hU, hK, hS, hY⟩), frT_up (by omega)⟩
    · obtain ⟨k, hk, rfl, hix⟩ := isI c_10 (by omega)
      refine am_q_iload_n rfl rfl ?_
      refine am_q_iconst (v := nI 1) rfl rfl ?_
      refine am_q_bipush (v := nI 60) rfl rfl ?_
      refine am_q_call rfl rfl (m_within _ _ _ _ _) rfl ?_
      refine am_q_if_eqB rfl (fun c_20 => ?_) (fun c_20 => ?_)
      · refine am_q_iconst (v := nI 0) rfl rfl ?_
        refine am_q_ireturn rfl rfl rfl ?_
        have hd : seeOk V S (nI k) w = false := by unfold seeOk; rw [c_20, Bool.and_false]; rfl
        rw [hd, show seeS V S (nI k) w b = S from if_neg (by rw [hd]; exact Bool.false_ne_true)]
        exact ⟨_, rfl, (mR_fr (fr_thr μ) ⟨hV, hW, hU, hK, hS, hY⟩), frT_up (by omega)⟩
      · obtain ⟨w1, h1, h60, rfl⟩ := rIn_k c_20 (by decide) (by decide)
        refine am_q_aload_n rfl rfl ?_
        refine am_q_gr rfl rfl rfl ?_
        refine am_q_bipush (v := nI 13) rfl rfl ?_
        refine am_q_iald rfl rfl (by first | exact am_ix_nI (by omega) (by omega) | rfl) (show _ = nI S.1 from hS0.1) ?_
        refine am_q_bipush (v := nI 8) rfl rfl ?_
        refine am_q_ineN rfl (by omega) (by omega) (fun c_32 => ?_) (fun c_32 => ?_)
        · refine am_q_bipush (v := nI 14) rfl rfl ?_
          refine am_q_iconst (v := nI 3) rfl rfl ?_
          refine am_q_aload_n rfl rfl ?_
          refine am_q_gr rfl rfl rfl ?_
          refine am_q_bipush (v := nI 13) rfl rfl ?_
          refine am_q_iald rfl rfl (by first | exact am_ix_nI (by omega) (by omega) | rfl) (show _ = nI S.1 from hS0.1) ?_
          refine am_q_imul rfl (pk_mul _ _) ?_
          refine am_q_iadd rfl (nI_add _ _) ?_
          refine am_q_istore [some _, some _, some _, some _, some _] rfl (Nat.le_of_ble_eq_true rfl) rfl ?_
          refine am_q_aload_n rfl rfl ?_
          refine am_q_gr rfl rfl rfl ?_
          refine am_q_iload rfl rfl ?_
          refine am_q_iload_n rfl rfl ?_
          refine am_q_iast rfl rfl (am_ix_nI (show 14 + 3 * S.1 < 836 by omega) (by decide)) rfl ?_
          refine am_q_aload_n rfl rfl ?_
          refine am_q_gr rfl rfl rfl ?_
          refine am_q_iload rfl rfl ?_
          refine am_q_iconst (v := nI 1) rfl rfl ?_
          refine am_q_iadd rfl (nI_add _ _) ?_
          refine am_q_iload_n rfl rfl ?_
          refine am_q_iast rfl rfl (am_ix_nI (show 14 + 3 * S.1 + 1 < 836 by omega) (by decide)) rfl ?_
          refine am_q_aload_n rfl rfl ?_
          refine am_q_gr rfl rfl rfl ?_
          refine am_q_iload rfl rfl ?_
          refine am_q_iconst (v := nI 2) rfl rfl ?_
          refine am_q_iadd rfl (nI_add _ _) ?_
          refine am_q_iload_n rfl rfl ?_
          refine am_q_if_eqB rfl (fun c_78 => ?_) (fun c_78 => ?_)
          · refine am_q_iconst (v := nI 0) rfl rfl ?_
            refine am_q_iast rfl rfl (am_ix_nI (show 14 + 3 * S.1 + 2 < 836 by omega) (by decide)) rfl ?_
            refine am_q_aload_n rfl rfl ?_
            refine am_q_gr rfl rfl rfl ?_
            refine am_q_bipush (v := nI 13) rfl rfl ?_
            refine am_q_dup2ir rfl ?_
            refine am_q_iald rfl rfl (by first | exact am_ix_nI (by omega) (by omega) | rfl) (show _ = nI S.1 from by rw [am_up_ne (by omega), am_up_ne (by omega), am_up_ne (by omega)]; exact hS0.1) ?_
            refine am_q_iconst (v := nI 1) rfl rfl ?_
            refine am_q_iadd rfl (nI_add _ _) ?_
            refine am_q_iast rfl rfl (by first | exact am_ix_nI (by omega) (by omega) | rfl) rfl ?_
            refine am_q_iconst (v := nI 1) rfl rfl ?_
            refine am_q_ireturn rfl rfl rfl ?_
            have hd : seeOk V S (nI k) (nI w1) = true := by unfold seeOk; rw [c_10, c_20, decide_eq_true (by omega)]; rfl
            rw [hd, show seeS V S (nI k) (nI w1) b = seeDo S k w1 b from by unfold seeS; rw [if_pos hd, ik_nI (by omega), ik_nI (by omega)]]
            exact ⟨_, rfl, mSeen_add (by rw [c_78]; rfl) (by omega) ⟨hV0, hW0, hU0, hK0, hS0, hY0⟩, frT_tr (frT_tr (frT_tr (frT_tr (frT_up (by omega)) (frT_up (by omega))) (frT_up (by omega))) (frT_up (by omega))) (frT_up (by omega))⟩
          · refine am_q_iconst (v := nI 1) rfl rfl ?_
            refine am_q_goto rfl ?_
            refine am_q_iast rfl rfl (am_ix_nI (show 14 + 3 * S.1 + 2 < 836 by omega) (by decide)) rfl ?_
            refine am_q_aload_n rfl rfl ?_
            refine am_q_gr rfl rfl rfl ?_
            refine am_q_bipush (v := nI 13) rfl rfl ?_
            refine am_q_dup2ir rfl ?_
            refine am_q_iald rfl rfl (by first | exact am_ix_nI (by omega) (by omega) | rfl) (show _ = nI S.1 from by rw [am_up_ne (by omega), am_up_ne (by omega), am_up_ne (by omega)]; exact hS0.1) ?_
            refine am_q_iconst (v := nI 1) rfl rfl ?_
            refine am_q_iadd rfl (nI_add _ _) ?_
            refine am_q_iast rfl rfl (by first | exact am_ix_nI (by omega) (by omega) | rfl) rfl ?_
            refine am_q_iconst (v := nI 1) rfl rfl ?_
            refine am_q_ireturn rfl rfl rfl ?_
            have hd : seeOk V S (nI k) (nI w1) = true := by unfold seeOk; rw [c_10, c_20, decide_eq_true (by omega)]; rfl
            rw [hd, show seeS V S (nI k) (nI w1) b = seeDo S k w1 b from by unfold seeS; rw [if_pos hd, ik_nI (by omega), ik_nI (by omega)]]
            exact ⟨_, rfl, mSeen_add (by rw [c_78]; rfl) (by omega) ⟨hV0, hW0, hU0, hK0, hS0, hY0⟩, frT_tr (frT_tr (frT_tr (frT_tr (frT_up (by omega)) (frT_up (by omega))) (frT_up (by omega))) (frT_up (by omega))) (frT_up (by omega))⟩
        · refine am_q_iconst (v := nI 0) rfl rfl ?_
          refine am_q_ireturn rfl rfl rfl ?_
          have hd : seeOk V S (nI k) (nI w1) = false := by unfold seeOk; rw [decide_eq_false (by omega), Bool.and_false]
          rw [hd, show seeS V S (nI k) (nI w1) b = S from if_neg (by rw [hd]; exact Bool.false_ne_true)]
          exact ⟨_, rfl, (mR_fr (fr_thr μ) ⟨hV, hW, hU, hK, hS, hY⟩), frT_up (by omega)⟩)
  obtain ⟨r, h1, μ', h2, h3⟩ := key
  exact ⟨μ', by rw [h1, h2], h3⟩
