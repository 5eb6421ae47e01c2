/-- draws -/
def nx (g : Nat) : Nat := (g * 1103515245 + 12345) % 2147483648
theorem nx_lt (g : Nat) : nx g < 2 ^ 31 := Nat.mod_lt _ (by decide)
def dr (g m : Nat) : Nat := g / 65536 % m
def dO (x : Nat) : Nat := if x < 2 then 1 else if x < 5 then 2 else 3
theorem dO_lt (x : Nat) : dO x < 4 := by unfold dO; split; omega; split <;> omega
theorem lN_ne0 {m : Nat} (h : 0 < m) (hm : m < 2 ^ 31) : ¬ lN m = 0 := fun e => by
  have := (lN_eq hm (b := 0) (by decide)).mp e
  omega
/-- a drawn deed -/
def cD (V : sVal) (T : sWall) (g : Nat) : sWall := if 0 < vN V ∧ 0 < vP V then dW V T (dO (dr (nx (nx (nx g))) 6)) (nI (dr (nx g) (vN V))) (nI (dr (nx (nx g)) (vP V))) else T
def cG (V : sVal) (g : Nat) : Nat := if 0 < vN V ∧ 0 < vP V then nx (nx (nx g)) else g
def cS (V : sVal) (W : sWall) (g : Nat) : Nat → sWall × Nat × Nat := lpF (fun _ x => (wk V (cD V x.1 x.2.1) (vCold V (cD V x.1 x.2.1).2.2), cG V x.2.1, x.2.2 + sn_bc (sBits (sFall V (cD V x.1 x.2.1).2.1 (cD V x.1 x.2.1).2.2 (vCold V (cD V x.1 x.2.1).2.2)) (vN V)))) (W, g, 0)
theorem cD_I {V : sVal} {T : sWall} {g : Nat} (hO : vOk V) (hI : sI (vN V) (vP V) T.1 T.2.1) : sI (vN V) (vP V) (cD V T g).1 (cD V T g).2.1 ∧ (cD V T g).2.2 ≤ T.2.2 + 1 := by
  unfold cD
  split
  · exact ⟨dW_I hO (dO_lt _) hI, dW_t⟩
  · exact ⟨hI, Nat.le_succ _⟩
theorem cS_I {V : sVal} {W : sWall} {g : Nat} (hO : vOk V) (hI : sI (vN V) (vP V) W.1 W.2.1) (hg : g < 2 ^ 31) : ∀ n, sI (vN V) (vP V) (cS V W g n).1.1 (cS V W g n).1.2.1 ∧ (cS V W g n).1.2.2 ≤ W.2.2 + 2 * n ∧ (cS V W g n).2.1 < 2 ^ 31
  | 0 => ⟨hI, Nat.le_refl _, hg⟩
  | n + 1 => by
    obtain ⟨h1, h2, h3⟩ := cS_I (W := W) hO hI hg n
    have h4 := cD_I (g := (cS V W g n).2.1) hO h1
    refine ⟨wkI h4.1, ?_, ?_⟩
    · show (cD V (cS V W g n).1 (cS V W g n).2.1).2.2 + 1 ≤ _
      omega
    · show cG V (cS V W g n).2.1 < _
      unfold cG
      split
      · exact nx_lt _
      · exact h3
def qCent (V : sVal) (W : sWall) (g w x : Int32) : Int32 := if (rIn g 0 9999 && rIn w 1 99 && rIn x 0 2) = true then (if x = nI 0 then nI (cS V W (ik g) (ik w)).2.2 else if x = nI 1 then nI (sn_bc (sBits (fun s => decide ((cS V W (ik g) (ik w)).1.1 s = 2)) (vN V))) else nI (sBits (fun s => decide ((cS V W (ik g) (ik w)).1.1 s = 4)) (vN V))) else -1
/-- StoneSecrets.nextSeed(J)J -/
theorem s_nextSeed (d : Nat) (g : Nat) (hg : g < 2 ^ 31) (h : am_H) : am_run (d + 1) 167 [.long (lN g)] (h) = some (some (.long (lN (nx g))), h) := by
  refine am_r167 (d := d + 0) (Nat.le_of_ble_eq_true rfl) [some (.long (lN g)), none] rfl ?_
  refine am_q_lload_n rfl rfl ?_
  refine am_q_ldc2_w (v := lN 1103515245) rfl rfl ?_
  refine am_q_lmul rfl (lN_mul _ _) ?_
  refine am_q_ldc2_w (v := lN 12345) rfl rfl ?_
  refine am_q_ladd rfl (lN_add _ _) ?_
  refine am_q_ldc2_w (v := lN 2147483648) rfl rfl ?_
  refine am_q_lrem rfl (by decide) (pk_lRem (by omega) (by decide) (by decide)) ?_
  refine am_q_lreturn rfl rfl ?_
  rfl

/-- StoneSecrets.drawOf(JI)I -/
theorem s_drawOf (d : Nat) (g m : Nat) (hg : g < 2 ^ 31) (hm : 0 < m) (hm2 : m < 2 ^ 31) (h : am_H) : am_run (d + 1) 168 [.long (lN g), .int (nI m)] (h) = some (some (.int (nI (dr g m))), h) := by
  refine am_r168 (d := d + 0) (Nat.le_of_ble_eq_true rfl) [some (.long (lN g)), none, some (.int (nI m))] rfl ?_
  refine am_q_iload_n rfl rfl ?_
  refine am_q_zleN rfl (by omega) (fun c_1 => absurd c_1 (by omega)) (fun c_1 => ?_)
  refine am_q_lload_n rfl rfl ?_
  refine am_q_ldc2_w (v := lN 65536) rfl rfl ?_
  refine am_q_ldiv rfl (by decide) (pk_lDiv (by omega) (by decide) (by decide)) ?_
  refine am_q_iload_n rfl rfl ?_
  refine am_q_i2l rfl (nI_l hm2) ?_
  refine am_q_lrem rfl (lN_ne0 hm hm2) (pk_lRem (by omega) hm (by omega)) ?_
  refine am_q_l2i rfl (lN_i _) ?_
  refine am_q_goto rfl ?_
  refine am_q_ireturn rfl rfl rfl ?_
  rfl

/-- StoneSecrets.deedOf(I)I -/
theorem s_deedOf (d : Nat) (x : Nat) (hx : x < 2 ^ 31) (h : am_H) : am_run (d + 1) 169 [.int (nI x)] (h) = some (some (.int (nI (dO x))), h) := by
  refine am_r169 (d := d + 0) (Nat.le_of_ble_eq_true rfl) [some (.int (nI x))] rfl ?_
  refine am_q_iload_n rfl rfl ?_
  refine am_q_iconst (v := nI 2) rfl rfl ?_
  refine am_q_igeN rfl (by omega) (by omega) (fun c_2 => ?_) (fun c_2 => ?_)
  · refine am_q_iload_n rfl rfl ?_
    refine am_q_iconst (v := nI 5) rfl rfl ?_
    refine am_q_igeN rfl (by omega) (by omega) (fun c_9 => ?_) (fun c_9 => ?_)
    · refine am_q_iconst (v := nI 3) rfl rfl ?_
      refine am_q_ireturn rfl rfl rfl ?_
      rw [dO, if_neg (by omega), if_neg (by omega)]
    · refine am_q_iconst (v := nI 2) rfl rfl ?_
      refine am_q_goto rfl ?_
      refine am_q_ireturn rfl rfl rfl ?_
      rw [dO, if_neg (by omega), if_pos (by omega)]
  · refine am_q_iconst (v := nI 1) rfl rfl ?_
    refine am_q_ireturn rfl rfl rfl ?_
    rw [dO, if_pos (by omega)]

theorem x_centL (d : Nat) (n : Nat) {V : sVal} {W : sWall} {μ : am_M2} (ν : am_N2) (hV : xVal μ V) (hO : vOk V) (hW : xWall μ 35 W) (hI : sI (vN V) (vP V) W.1 W.2.1) (ht : W.2.2 < 2 ^ 20) (g w x : Nat) (hg : g ≤ 9999) (hw1 : 1 ≤ w) (hw : w ≤ 99) (hx : x ≤ 2) : ∀ (m j : Nat) (μ1 : am_M2) (o8 : Option Value) (o9 : Option Value), j + m = w → fr μ μ1 ∧ xWall μ1 38 (cS V W g j).1 → am_w (d + 7) (Option.some FieldType.int) am_g166 54 [some (.ref 2), some (.int (nI g)), some (.int (nI w)), some (.int (nI x)), some (.int (nI ((cS V W g j).2.2))), some (.long (lN (cS V W g j).2.1)), none, some (.int (nI j)), o8, o9] [] (am_hp n μ1 ν) (fun y => ∃ (μ' : am_M2), y = (some (.int (qCent V W (nI g) (nI w) (nI x))), am_hp n μ' ν) ∧ fr μ μ') := by
  intro m
  induction m with
  | zero =>
    intro j μ1 o8 o9 hj hinv
    have hyes : (rIn (nI g) 0 9999 && rIn (nI w) 1 99 && rIn (nI x) 0 2) = true := by rw [rIn_nI (by omega) (by omega) (by omega), rIn_nI (by omega) (by omega) (by omega), rIn_nI (by omega) (by omega) (by omega)]; simp; omega
    have h6 := hO.1.1
    have hP8 := hO.1.2.1
    have h8 := sI_8 hO hI
    have hV1 := xVal_fr hinv.1 hV
    obtain ⟨hJ1, hJ2, hJ3⟩ := cS_I (W := W) hO hI (show g < 2 ^ 31 by omega) j
    refine am_q_iload rfl rfl ?_
    refine am_q_iload_n rfl rfl ?_
    refine am_q_igeN rfl (by omega) (by omega) (fun c_57 => ?_) (fun c_57 => absurd c_57 (by omega))
    refine am_q_iload_n rfl rfl ?_
    refine am_q_zneN rfl (by omega) (fun c_187 => ?_) (fun c_187 => ?_)
    · refine am_q_iload_n rfl rfl ?_
      refine am_q_iconst (v := nI 1) rfl rfl ?_
      refine am_q_ineN rfl (by omega) (by omega) (fun c_195 => ?_) (fun c_195 => ?_)
      · refine am_q_aload_n rfl rfl ?_
        refine am_q_gr rfl rfl rfl ?_
        refine am_q_iconst (v := nI 4) rfl rfl ?_
        refine am_q_call rfl rfl (s_who38 _ 4 (by omega) _ _ hV1.1 hinv.2 hJ1) rfl ?_
        refine am_q_ireturn rfl rfl rfl ?_
        exact ⟨_, by rw [qCent, if_pos hyes, if_neg (fun q => c_187 ((nI_eq (by omega) (by omega)).mp q)), if_neg (fun q => c_195 ((nI_eq (by omega) (by omega)).mp q)), ik_nI (by omega), ik_nI (by omega), show w = j by omega], hinv.1⟩
      · refine am_q_aload_n rfl rfl ?_
        refine am_q_gr rfl rfl rfl ?_
        refine am_q_iconst (v := nI 2) rfl rfl ?_
        refine am_q_call rfl rfl (s_who38 _ 2 (by omega) _ _ hV1.1 hinv.2 hJ1) rfl ?_
        refine am_q_call rfl rfl (s_bitCount _ _ (Nat.lt_trans (sn_64 h6) (by decide)) _) rfl ?_
        refine am_q_goto rfl ?_
        refine am_q_ireturn rfl rfl rfl ?_
        exact ⟨_, by rw [qCent, if_pos hyes, if_neg (fun q => c_187 ((nI_eq (by omega) (by omega)).mp q)), if_pos (by rw [c_195]), ik_nI (by omega), ik_nI (by omega), show w = j by omega], hinv.1⟩
    · refine am_q_iload rfl rfl ?_
      refine am_q_ireturn rfl rfl rfl ?_
      exact ⟨_, by rw [qCent, if_pos hyes, c_187, if_pos rfl, ik_nI (by omega), ik_nI (by omega), show w = j by omega], hinv.1⟩
  | succ m ih =>
    intro j μ1 o8 o9 hj hinv
    have h6 := hO.1.1
    have hP8 := hO.1.2.1
    have h8 := sI_8 hO hI
    have hV1 := xVal_fr hinv.1 hV
    obtain ⟨hJ1, hJ2, hJ3⟩ := cS_I (W := W) hO hI (show g < 2 ^ 31 by omega) j
    have hD := cD_I (g := (cS V W g j).2.1) hO hJ1
    have n1 := nx_lt (cS V W g j).2.1
    have n2 := nx_lt (nx (cS V W g j).2.1)
    have n3 := nx_lt (nx (nx (cS V W g j).2.1))
    have eT : (cS V W g (j + 1)).1 = wk V (cD V (cS V W g j).1 (cS V W g j).2.1) (vCold V (cD V (cS V W g j).1 (cS V W g j).2.1).2.2) := rfl
    have eG : (cS V W g (j + 1)).2.1 = cG V (cS V W g j).2.1 := rfl
    have eF : (cS V W g (j + 1)).2.2 = (cS V W g j).2.2 + sn_bc (sBits (sFall V (cD V (cS V W g j).1 (cS V W g j).2.1).2.1 (cD V (cS V W g j).1 (cS V W g j).2.1).2.2 (vCold V (cD V (cS V W g j).1 (cS V W g j).2.1).2.2)) (vN V)) := rfl
    refine am_q_iload rfl rfl ?_
    refine am_q_iload_n rfl rfl ?_
    refine am_q_igeN rfl (by omega) (by omega) (fun c_57 => absurd c_57 (by omega)) (fun c_57 => ?_)
    refine am_q_aload_n rfl rfl ?_
    refine am_q_gr rfl rfl rfl ?_
    refine am_q_gi rfl rfl rfl hV1.1.1 ?_
    refine am_q_zleN rfl (by omega) (fun c_67 => ?_) (fun c_67 => ?_)
    · have hz : ¬ (0 < vN V ∧ 0 < vP V) := by omega
      have eD : cD V (cS V W g j).1 (cS V W g j).2.1 = (cS V W g j).1 := if_neg hz
      have eG2 : cG V (cS V W g j).2.1 = (cS V W g j).2.1 := if_neg hz
      have hV2 := hV1
      have hTd := hinv.2
      rw [← eD] at hTd
      have hf2 := fr_rf μ1
      obtain ⟨μ3, hc3, hf3, hT3⟩ := s_pw38 (d + 2) (vCold V (cD V (cS V W g j).1 (cS V W g j).2.1).2.2) n ν hV2 hO hTd hD.1 (by omega)
      refine am_q_iload rfl rfl ?_
      refine am_q_aload_n rfl rfl ?_
      refine am_q_gr rfl rfl rfl ?_
      refine am_q_aload_n rfl rfl ?_
      refine am_q_gr rfl rfl rfl ?_
      refine am_q_aload_n rfl rfl ?_
      refine am_q_gr rfl rfl rfl ?_
      refine am_q_gi rfl rfl rfl hTd.2.2 ?_
      refine am_q_call rfl rfl (s_coldOf _ _ _ (by omega) _ hV2 hO) rfl ?_
      refine am_q_call rfl rfl (hc3) rfl ?_
      refine am_q_call rfl rfl (s_bitCount _ _ (Nat.lt_trans (sn_64 h6) (by decide)) _) rfl ?_
      refine am_q_iadd rfl (nI_add _ _) ?_
      refine am_q_istore [some _, some _, some _, some _, some _, some _, none, some _, _, _] rfl (Nat.le_of_ble_eq_true rfl) rfl ?_
      refine am_q_iinc [some _, some _, some _, some _, some _, some _, none, some _, _, _] rfl (c := nI 1) rfl rfl (Nat.le_of_ble_eq_true rfl) (nI_add _ _) rfl ?_
      refine am_q_goto rfl ?_
      (have e := fun o8 o9 => ih (j + 1) μ3 o8 o9 (by omega) ⟨fr_tr hinv.1 (fr_tr hf2 hf3), hT3⟩; simp only [eG, eF, eG2] at e; exact e _ _)
    · refine am_q_aload_n rfl rfl ?_
      refine am_q_gr rfl rfl rfl ?_
      refine am_q_gi rfl rfl rfl hV1.1.2.2.1 ?_
      refine am_q_zleN rfl (by omega) (fun c_77 => ?_) (fun c_77 => ?_)
      · have hz : ¬ (0 < vN V ∧ 0 < vP V) := by omega
        have eD : cD V (cS V W g j).1 (cS V W g j).2.1 = (cS V W g j).1 := if_neg hz
        have eG2 : cG V (cS V W g j).2.1 = (cS V W g j).2.1 := if_neg hz
        have hV2 := hV1
        have hTd := hinv.2
        rw [← eD] at hTd
        have hf2 := fr_rf μ1
        obtain ⟨μ3, hc3, hf3, hT3⟩ := s_pw38 (d + 2) (vCold V (cD V (cS V W g j).1 (cS V W g j).2.1).2.2) n ν hV2 hO hTd hD.1 (by omega)
        refine am_q_iload rfl rfl ?_
        refine am_q_aload_n rfl rfl ?_
        refine am_q_gr rfl rfl rfl ?_
        refine am_q_aload_n rfl rfl ?_
        refine am_q_gr rfl rfl rfl ?_
        refine am_q_aload_n rfl rfl ?_
        refine am_q_gr rfl rfl rfl ?_
        refine am_q_gi rfl rfl rfl hTd.2.2 ?_
        refine am_q_call rfl rfl (s_coldOf _ _ _ (by omega) _ hV2 hO) rfl ?_
        refine am_q_call rfl rfl (hc3) rfl ?_
        refine am_q_call rfl rfl (s_bitCount _ _ (Nat.lt_trans (sn_64 h6) (by decide)) _) rfl ?_
        refine am_q_iadd rfl (nI_add _ _) ?_
        refine am_q_istore [some _, some _, some _, some _, some _, some _, none, some _, _, _] rfl (Nat.le_of_ble_eq_true rfl) rfl ?_
        refine am_q_iinc [some _, some _, some _, some _, some _, some _, none, some _, _, _] rfl (c := nI 1) rfl rfl (Nat.le_of_ble_eq_true rfl) (nI_add _ _) rfl ?_
        refine am_q_goto rfl ?_
        (have e := fun o8 o9 => ih (j + 1) μ3 o8 o9 (by omega) ⟨fr_tr hinv.1 (fr_tr hf2 hf3), hT3⟩; simp only [eG, eF, eG2] at e; exact e _ _)
      · have hz : 0 < vN V ∧ 0 < vP V := by omega
        have eD : cD V (cS V W g j).1 (cS V W g j).2.1 = dW V (cS V W g j).1 (dO (dr (nx (nx (nx (cS V W g j).2.1))) 6)) (nI (dr (nx (cS V W g j).2.1) (vN V))) (nI (dr (nx (nx (cS V W g j).2.1)) (vP V))) := if_pos hz
        have eG2 : cG V (cS V W g j).2.1 = nx (nx (nx (cS V W g j).2.1)) := if_pos hz
        obtain ⟨μ2, hc2, hf2, hT2⟩ := s_att d (dO (dr (nx (nx (nx (cS V W g j).2.1))) 6)) (dO_lt _) (nI (dr (nx (cS V W g j).2.1) (vN V))) (nI (dr (nx (nx (cS V W g j).2.1)) (vP V))) n ν hV1 hO hinv.2 hJ1 (by omega)
        have hV2 := xVal_fr hf2 hV1
        have hTd := hT2
        rw [← eD] at hTd
        obtain ⟨μ3, hc3, hf3, hT3⟩ := s_pw38 (d + 2) (vCold V (cD V (cS V W g j).1 (cS V W g j).2.1).2.2) n ν hV2 hO hTd hD.1 (by omega)
        refine am_q_lload rfl rfl ?_
        refine am_q_call rfl rfl (s_nextSeed _ _ (by omega) _) rfl ?_
        refine am_q_lstore [some _, some _, some _, some _, some _, some _, none, some _, _, _] rfl (Nat.le_of_ble_eq_true rfl) rfl ?_
        refine am_q_lload rfl rfl ?_
        refine am_q_aload_n rfl rfl ?_
        refine am_q_gr rfl rfl rfl ?_
        refine am_q_gi rfl rfl rfl hV1.1.1 ?_
        refine am_q_call rfl rfl (s_drawOf _ _ _ (by omega) (by omega) (by omega) _) rfl ?_
        refine am_q_istore [some _, some _, some _, some _, some _, some _, none, some _, some _, _] rfl (Nat.le_of_ble_eq_true rfl) rfl ?_
        refine am_q_lload rfl rfl ?_
        refine am_q_call rfl rfl (s_nextSeed _ _ (by omega) _) rfl ?_
        refine am_q_lstore [some _, some _, some _, some _, some _, some _, none, some _, some _, _] rfl (Nat.le_of_ble_eq_true rfl) rfl ?_
        refine am_q_lload rfl rfl ?_
        refine am_q_aload_n rfl rfl ?_
        refine am_q_gr rfl rfl rfl ?_
        refine am_q_gi rfl rfl rfl hV1.1.2.2.1 ?_
        refine am_q_call rfl rfl (s_drawOf _ _ _ (by omega) (by omega) (by omega) _) rfl ?_
        refine am_q_istore [some _, some _, some _, some _, some _, some _, none, some _, some _, some _] rfl (Nat.le_of_ble_eq_true rfl) rfl ?_
        refine am_q_lload rfl rfl ?_
        refine am_q_call rfl rfl (s_nextSeed _ _ (by omega) _) rfl ?_
        refine am_q_lstore [some _, some _, some _, some _, some _, some _, none, some _, some _, some _] rfl (Nat.le_of_ble_eq_true rfl) rfl ?_
        refine am_q_aload_n rfl rfl ?_
        refine am_q_gr rfl rfl rfl ?_
        refine am_q_lload rfl rfl ?_
        refine am_q_bipush (v := nI 6) rfl rfl ?_
        refine am_q_call rfl rfl (s_drawOf _ _ _ (by omega) (by omega) (by omega) _) rfl ?_
        refine am_q_call rfl rfl (s_deedOf _ _ (Nat.lt_trans (Nat.mod_lt _ (by decide)) (by decide)) _) rfl ?_
        refine am_q_iload rfl rfl ?_
        refine am_q_iload rfl rfl ?_
        refine am_q_call rfl rfl (hc2) rfl ?_
        refine am_q_popi rfl ?_
        refine am_q_iload rfl rfl ?_
        refine am_q_aload_n rfl rfl ?_
        refine am_q_gr rfl rfl rfl ?_
        refine am_q_aload_n rfl rfl ?_
        refine am_q_gr rfl rfl rfl ?_
        refine am_q_aload_n rfl rfl ?_
        refine am_q_gr rfl rfl rfl ?_
        refine am_q_gi rfl rfl rfl hTd.2.2 ?_
        refine am_q_call rfl rfl (s_coldOf _ _ _ (by omega) _ hV2 hO) rfl ?_
        refine am_q_call rfl rfl (hc3) rfl ?_
        refine am_q_call rfl rfl (s_bitCount _ _ (Nat.lt_trans (sn_64 h6) (by decide)) _) rfl ?_
        refine am_q_iadd rfl (nI_add _ _) ?_
        refine am_q_istore [some _, some _, some _, some _, some _, some _, none, some _, some _, some _] rfl (Nat.le_of_ble_eq_true rfl) rfl ?_
        refine am_q_iinc [some _, some _, some _, some _, some _, some _, none, some _, some _, some _] rfl (c := nI 1) rfl rfl (Nat.le_of_ble_eq_true rfl) (nI_add _ _) rfl ?_
        refine am_q_goto rfl ?_
        (have e := fun o8 o9 => ih (j + 1) μ3 o8 o9 (by omega) ⟨fr_tr hinv.1 (fr_tr hf2 hf3), hT3⟩; simp only [eG, eF, eG2] at e; exact e _ _)

/-- StoneSecrets.centuries(III)I -/
theorem x_centuries (d : Nat) (g w x : Int32) (n : Nat) {V : sVal} {W : sWall} {μ : am_M2} (ν : am_N2) (hV : xVal μ V) (hO : vOk V) (hW : xWall μ 35 W) (hI : sI (vN V) (vP V) W.1 W.2.1) (ht : W.2.2 < 2 ^ 20) : ∃ (μ' : am_M2), am_run (d + 8) 166 [.ref 2, .int g, .int w, .int x] (am_hp n μ ν) = some (some (.int (qCent V W g w x)), am_hp n μ' ν) ∧ fr μ μ' := by
  have h6 := hO.1.1
  have hP8 := hO.1.2.1
  have h8 := sI_8 hO hI
  have key : ∃ r, am_run (d + 8) 166 [.ref 2, .int g, .int w, .int x] (am_hp n μ ν) = some r ∧ ∃ (μ' : am_M2), r = (some (.int (qCent V W g w x)), am_hp n μ' ν) ∧ fr μ μ' := am_run_wE (k := 166) (d := d + 7) rfl rfl (Nat.le_of_ble_eq_true rfl) [some (.ref 2), some (.int g), some (.int w), some (.int x), none, none, none, none, none, none] rfl (by
    refine am_q_iload_n rfl rfl ?_
    refine am_q_if_lt rfl (fun c_1 => ?_) (fun c_1 => ?_)
    · have hno : (rIn g 0 9999 && rIn w 1 99 && rIn x 0 2) = false := by simp [show rIn g 0 9999 = false from rIn_lo c_1]
      refine am_q_iconst (v := -1) rfl rfl ?_
      refine am_q_ireturn rfl rfl rfl ?_
      exact ⟨_, by rw [qCent, if_neg (by simp [hno])], fr_rf _⟩
    · refine am_q_iload_n rfl rfl ?_
      refine am_q_sipush (v := nI 9999) rfl rfl ?_
      refine am_q_icmp_gt rfl (fun c_8 => ?_) (fun c_8 => ?_)
      · have hno : (rIn g 0 9999 && rIn w 1 99 && rIn x 0 2) = false := by simp [rIn_hi c_8]
        refine am_q_iconst (v := -1) rfl rfl ?_
        refine am_q_ireturn rfl rfl rfl ?_
        exact ⟨_, by rw [qCent, if_neg (by simp [hno])], fr_rf _⟩
      · refine am_q_iload_n rfl rfl ?_
        refine am_q_iconst (v := nI 1) rfl rfl ?_
        refine am_q_icmp_lt rfl (fun c_13 => ?_) (fun c_13 => ?_)
        · have hno : (rIn g 0 9999 && rIn w 1 99 && rIn x 0 2) = false := by simp [rIn_lo c_13]
          refine am_q_iconst (v := -1) rfl rfl ?_
          refine am_q_ireturn rfl rfl rfl ?_
          exact ⟨_, by rw [qCent, if_neg (by simp [hno])], fr_rf _⟩
        · refine am_q_iload_n rfl rfl ?_
          refine am_q_bipush (v := nI 99) rfl rfl ?_
          refine am_q_icmp_gt rfl (fun c_19 => ?_) (fun c_19 => ?_)
          · have hno : (rIn g 0 9999 && rIn w 1 99 && rIn x 0 2) = false := by simp [rIn_hi c_19]
            refine am_q_iconst (v := -1) rfl rfl ?_
            refine am_q_ireturn rfl rfl rfl ?_
            exact ⟨_, by rw [qCent, if_neg (by simp [hno])], fr_rf _⟩
          · refine am_q_iload_n rfl rfl ?_
            refine am_q_if_lt rfl (fun c_23 => ?_) (fun c_23 => ?_)
            · have hno : (rIn g 0 9999 && rIn w 1 99 && rIn x 0 2) = false := by simp [show rIn x 0 2 = false from rIn_lo c_23]
              refine am_q_iconst (v := -1) rfl rfl ?_
              refine am_q_ireturn rfl rfl rfl ?_
              exact ⟨_, by rw [qCent, if_neg (by simp [hno])], fr_rf _⟩
            · refine am_q_iload_n rfl rfl ?_
              refine am_q_iconst (v := nI 2) rfl rfl ?_
              refine am_q_icmp_le rfl (fun c_28 => ?_) (fun c_28 => ?_)
              · obtain ⟨kg, -, hg, rfl⟩ := rIn_k (rIn_in (lo := 0) (hi := 9999) c_1 c_8) (by decide) (by decide)
                obtain ⟨kw, hw1, hw2, rfl⟩ := rIn_k (rIn_in (lo := 1) (hi := 99) c_13 c_19) (by decide) (by decide)
                obtain ⟨kx, -, hx2, rfl⟩ := rIn_k (rIn_in (lo := 0) (hi := 2) c_23 (fun q => (fa_of_lt q).2.1 c_28)) (by decide) (by decide)
                obtain ⟨μ1, hc, hf1, hT⟩ := s_tcopy (d + 6) n ν hW
                refine am_q_aload_n rfl rfl ?_
                refine am_q_gr rfl rfl rfl ?_
                refine am_q_aload_n rfl rfl ?_
                refine am_q_gr rfl rfl rfl ?_
                refine am_q_call rfl rfl (hc) rfl ?_
                refine am_q_iconst (v := nI 0) rfl rfl ?_
                refine am_q_istore [some _, some _, some _, some _, some _, none, none, none, none, none] rfl (Nat.le_of_ble_eq_true rfl) rfl ?_
                refine am_q_iload_n rfl rfl ?_
                refine am_q_i2l rfl (nI_l (by omega)) ?_
                refine am_q_lstore [some _, some _, some _, some _, some _, some _, none, none, none, none] rfl (Nat.le_of_ble_eq_true rfl) rfl ?_
                refine am_q_iconst (v := nI 0) rfl rfl ?_
                refine am_q_istore [some _, some _, some _, some _, some _, some _, none, some _, none, none] rfl (Nat.le_of_ble_eq_true rfl) rfl ?_
                exact x_centL d n ν hV hO hW hI ht kg kw kx hg hw1 hw2 hx2 kw 0 μ1 none none (by omega) ⟨hf1, hT⟩
              · have hno : (rIn g 0 9999 && rIn w 1 99 && rIn x 0 2) = false := by simp [rIn_hi (fa_of_nle c_28)]
                refine am_q_iconst (v := -1) rfl rfl ?_
                refine am_q_ireturn rfl rfl rfl ?_
                exact ⟨_, by rw [qCent, if_neg (by simp [hno])], fr_rf _⟩)
  obtain ⟨r, h1, μ', h2, h3⟩ := key
  exact ⟨μ', by rw [h1, h2], h3⟩
