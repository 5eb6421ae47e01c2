def pw (w : Nat) : Nat := 10 ^ w
/-- how likely just these frosts are, out of 10 ^ w -/
def shM (f od : Nat) : Nat → Nat := lpF (fun i x => x * (if f.testBit i = true then od else 10 - od)) 1
theorem shM_s (f od i : Nat) : shM f od (i + 1) = shM f od i * (if f.testBit i = true then od else 10 - od) := rfl
theorem shM_le {f od : Nat} (h : od ≤ 10) : ∀ n, shM f od n ≤ 10 ^ n
  | 0 => Nat.le_refl _
  | n + 1 => by
    rw [shM_s, Nat.pow_succ]
    refine Nat.mul_le_mul (shM_le h n) ?_
    split <;> omega
theorem shN_s (f w od i : Nat) : shN f w od (i + 1) = if w ≤ i then shN f w od i * 10 else shN f w od i * (if f.testBit i = true then od else 10 - od) := rfl
theorem shN_M {f w od : Nat} : ∀ n, n ≤ w → shN f w od n = shM f od n
  | 0, _ => rfl
  | n + 1, h => by rw [shN_s, if_neg (by omega), shN_M n (by omega), shM_s]
theorem shN_6 {f w od : Nat} : ∀ m, shN f w od (w + m) = shM f od w * 10 ^ m
  | 0 => by rw [Nat.add_zero, shN_M w (Nat.le_refl _), Nat.pow_zero, Nat.mul_one]
  | m + 1 => by rw [show w + (m + 1) = (w + m) + 1 by omega, shN_s, if_pos (by omega), shN_6 m, Nat.pow_succ, Nat.mul_assoc]
def cSuM (V : sVal) (W : sWall) (s w od : Nat) : Nat → Nat := lpF (fun f x => if (olT V W f w).1 s = 2 then x + shM f od w else x) 0
theorem cSuM_s (V : sVal) (W : sWall) (s w od f : Nat) : cSuM V W s w od (f + 1) = if (olT V W f w).1 s = 2 then cSuM V W s w od f + shM f od w else cSuM V W s w od f := rfl
theorem cSuM_le {V : sVal} {W : sWall} {s w od : Nat} (h : od ≤ 10) : ∀ n, cSuM V W s w od n ≤ n * 10 ^ w
  | 0 => Nat.zero_le _
  | n + 1 => by
    have := cSuM_le (V := V) (W := W) (s := s) (w := w) h n
    have := shM_le (f := n) h w
    rw [cSuM_s, Nat.succ_mul]
    split <;> omega
theorem cSu_6 {V : sVal} {W : sWall} {s w od : Nat} (hw : w ≤ 6) : ∀ n, cSum V W s w od n = cSuM V W s w od n * 10 ^ (6 - w)
  | 0 => by simp [cSum, cSuM, lpF]
  | n + 1 => by
    have e : cSum V W s w od (n + 1) = if (olT V W n w).1 s = 2 then cSum V W s w od n + shN n w od 6 else cSum V W s w od n := rfl
    rw [e, cSuM_s, cSu_6 hw n, show shN n w od 6 = shM n od w * 10 ^ (6 - w) by have := shN_6 (f := n) (w := w) (od := od) (6 - w); rw [show w + (6 - w) = 6 by omega] at this; exact this]
    split
    · rw [Nat.add_mul]
    · rfl
theorem cSu_div {a w : Nat} (hw : w ≤ 6) : a * 1000000 / 10 ^ w = a * 10 ^ (6 - w) := by
  have e : (1000000 : Nat) = 10 ^ (6 - w) * 10 ^ w := by rw [← Nat.pow_add, show 6 - w + w = 6 by omega]
  rw [e, ← Nat.mul_assoc]
  exact Nat.mul_div_cancel _ (Nat.pow_pos (by decide))
theorem p10 : ∀ w, w ≤ 6 → 10 ^ w ≤ 1000000 := by decide
theorem p2w : ∀ w, w ≤ 6 → 2 ^ w ≤ 64 := by decide
theorem olT_s (V : sVal) (W : sWall) (f i : Nat) : olT V W f (i + 1) = wk V (olT V W f i) (if f.testBit i = true then 9 else 0) := rfl
theorem m_chI (d : Nat) (n : Nat) {V : sVal} {W : sWall} {μ : am_M2} (ν : am_N2) (hV : mVal μ V) (hO : vOk V) (hW : mWall μ 0 W) (hI : sI (vN V) (vP V) W.1 W.2.1) (ht : W.2.2 < 2 ^ 20) (s w od f x : Nat) (hs : s < vN V) (hw : w ≤ 6) (ho : od ≤ 10) (hf : f < 2 ^ 31) (Q : am_R → Prop) (K : ∀ μ1 o12, fr μ μ1 → mWall μ1 798 (olT V W f w) → am_w (d + 5) (Option.some FieldType.int) am_g294 165 [some (.ref 133), some (.int (nI s)), some (.int (nI w)), some (.int (nI od)), some (.long (lN (10 ^ w))), none, some (.long (lN x)), none, some (.int (nI f)), some (.long (lN (shM f od w))), none, some (.int (nI w)), o12] [] (am_hp n μ1 ν) Q) : ∀ (m j : Nat) (μ1 : am_M2) (o12 : Option Value), j + m = w → fr μ μ1 ∧ mWall μ1 798 (olT V W f j) → am_w (d + 5) (Option.some FieldType.int) am_g294 95 [some (.ref 133), some (.int (nI s)), some (.int (nI w)), some (.int (nI od)), some (.long (lN (10 ^ w))), none, some (.long (lN x)), none, some (.int (nI f)), some (.long (lN (shM f od j))), none, some (.int (nI j)), o12] [] (am_hp n μ1 ν) (Q) := by
  intro m
  induction m with
  | zero =>
    intro j μ1 o12 hj hinv
    refine am_q_iload rfl rfl ?_
    refine am_q_iload_n rfl rfl ?_
    refine am_q_igeN rfl (by omega) (by omega) (fun c_98 => ?_) (fun c_98 => absurd c_98 (by omega))
    have hjw : j = w := by omega
    rw [hjw] at hinv ⊢
    exact K _ _ hinv.1 hinv.2
  | succ m ih =>
    intro j μ1 o12 hj hinv
    have h6 := hO.1.1
    have hP8 := hO.1.2.1
    have h8 := sI_8 hO hI
    have hpk := sI_p hI
    have hV1 := mVal_fr hinv.1 hV
    have hoI := olT_I (f := f) hI j
    have htb := tb_1 f j
    refine am_q_iload rfl rfl ?_
    refine am_q_iload_n rfl rfl ?_
    refine am_q_igeN rfl (by omega) (by omega) (fun c_98 => absurd c_98 (by omega)) (fun c_98 => ?_)
    refine am_q_iload rfl rfl ?_
    refine am_q_iload rfl rfl ?_
    refine am_q_ishr rfl (sn_shr (by omega) (by omega)) ?_
    refine am_q_iconst (v := nI 1) rfl rfl ?_
    refine am_q_iand rfl (show nI (f / 2 ^ j) &&& nI 1 = nI (f / 2 ^ j % 2) from fa_mask _ 1) ?_
    refine am_q_iconst (v := nI 1) rfl rfl ?_
    refine am_q_ineN rfl (by omega) (by omega) (fun c_109 => ?_) (fun c_109 => ?_)
    · have hb := (tb_0 f j).mp c_109
      obtain ⟨μ2, hc2, hW2, hf2⟩ := m_passes d n ν hV1 hO 798 (by decide) hinv.2 hoI.1 0 (by decide) (by omega)
      have hT : mWall μ2 798 (olT V W f (j + 1)) := by rw [olT_s, hb]; exact hW2
      have hm : shM f od (j + 1) = shM f od j * (10 - od) := by rw [shM_s, hb]; rfl
      refine am_q_iconst (v := nI 0) rfl rfl ?_
      refine am_q_istore [some _, some _, some _, some _, some _, none, some _, none, some _, some _, none, some _, some _] rfl (Nat.le_of_ble_eq_true rfl) rfl ?_
      refine am_q_lload rfl rfl ?_
      refine am_q_iload rfl rfl ?_
      refine am_q_zeqN rfl (by omega) (fun c_123 => ?_) (fun c_123 => absurd c_123 (by omega))
      refine am_q_ldc2_w (v := lN 10) rfl rfl ?_
      refine am_q_iload_n rfl rfl ?_
      refine am_q_i2l rfl (nI_l (by omega)) ?_
      refine am_q_lsub rfl (lN_sub (by omega)) ?_
      refine am_q_lmul rfl (lN_mul _ _) ?_
      refine am_q_lstore [some _, some _, some _, some _, some _, none, some _, none, some _, some _, none, some _, some _] rfl (Nat.le_of_ble_eq_true rfl) rfl ?_
      refine am_q_aload_n rfl rfl ?_
      refine am_q_sipush (v := nI 798) rfl rfl ?_
      refine am_q_iload rfl rfl ?_
      refine am_q_zeqN rfl (by omega) (fun c_146 => ?_) (fun c_146 => absurd c_146 (by omega))
      refine am_q_iconst (v := nI 0) rfl rfl ?_
      refine am_q_call rfl rfl (hc2) rfl ?_
      refine am_q_popi rfl ?_
      refine am_q_iinc [some _, some _, some _, some _, some _, none, some _, none, some _, some _, none, some _, some _] rfl (c := nI 1) rfl rfl (Nat.le_of_ble_eq_true rfl) (nI_add _ _) rfl ?_
      refine am_q_goto rfl ?_
      (have e := fun o => ih (j + 1) _ o (by omega) ⟨fr_tr hinv.1 (fr_B hf2), hT⟩; rw [hm] at e; exact e _)
    · have hb := htb.mp c_109
      obtain ⟨μ2, hc2, hW2, hf2⟩ := m_passes d n ν hV1 hO 798 (by decide) hinv.2 hoI.1 9 (by decide) (by omega)
      have hT : mWall μ2 798 (olT V W f (j + 1)) := by rw [olT_s, hb]; exact hW2
      have hm : shM f od (j + 1) = shM f od j * od := by rw [shM_s, hb]; rfl
      refine am_q_iconst (v := nI 1) rfl rfl ?_
      refine am_q_goto rfl ?_
      refine am_q_istore [some _, some _, some _, some _, some _, none, some _, none, some _, some _, none, some _, some _] rfl (Nat.le_of_ble_eq_true rfl) rfl ?_
      refine am_q_lload rfl rfl ?_
      refine am_q_iload rfl rfl ?_
      refine am_q_zeqN rfl (by omega) (fun c_123 => absurd c_123 (by omega)) (fun c_123 => ?_)
      refine am_q_iload_n rfl rfl ?_
      refine am_q_i2l rfl (nI_l (by omega)) ?_
      refine am_q_goto rfl ?_
      refine am_q_lmul rfl (lN_mul _ _) ?_
      refine am_q_lstore [some _, some _, some _, some _, some _, none, some _, none, some _, some _, none, some _, some _] rfl (Nat.le_of_ble_eq_true rfl) rfl ?_
      refine am_q_aload_n rfl rfl ?_
      refine am_q_sipush (v := nI 798) rfl rfl ?_
      refine am_q_iload rfl rfl ?_
      refine am_q_zeqN rfl (by omega) (fun c_146 => absurd c_146 (by omega)) (fun c_146 => ?_)
      refine am_q_bipush (v := nI 9) rfl rfl ?_
      refine am_q_goto rfl ?_
      refine am_q_call rfl rfl (hc2) rfl ?_
      refine am_q_popi rfl ?_
      refine am_q_iinc [some _, some _, some _, some _, some _, none, some _, none, some _, some _, none, some _, some _] rfl (c := nI 1) rfl rfl (Nat.le_of_ble_eq_true rfl) (nI_add _ _) rfl ?_
      refine am_q_goto rfl ?_
      (have e := fun o => ih (j + 1) _ o (by omega) ⟨fr_tr hinv.1 (fr_B hf2), hT⟩; rw [hm] at e; exact e _)

theorem m_chT (d n : Nat) {V : sVal} {W : sWall} {μ μ1 : am_M2} (ν : am_N2) (s w od f x : Nat) (hf : fr μ μ1) (hT : mWall μ1 798 (olT V W f w)) (hs : s < 6) (hoI : sI (vN V) (vP V) (olT V W f w).1 (olT V W f w).2.1) (h6 : vN V ≤ 6) (p12 : Option Value) (Q : am_R → Prop) (K1 : (olT V W f w).1 s = 2 → am_w (d + 5) (Option.some FieldType.int) am_g294 77 [some (.ref 133), some (.int (nI s)), some (.int (nI w)), some (.int (nI od)), some (.long (lN (10 ^ w))), none, some (.long (lN (x + shM f od w))), none, some (.int (nI (f + 1))), some (.long (lN (shM f od w))), none, some (.int (nI w)), p12] [] (am_hp n μ1 ν) Q) (K2 : ¬ (olT V W f w).1 s = 2 → am_w (d + 5) (Option.some FieldType.int) am_g294 77 [some (.ref 133), some (.int (nI s)), some (.int (nI w)), some (.int (nI od)), some (.long (lN (10 ^ w))), none, some (.long (lN (x))), none, some (.int (nI (f + 1))), some (.long (lN (shM f od w))), none, some (.int (nI w)), p12] [] (am_hp n μ1 ν) Q) : am_w (d + 5) (Option.some FieldType.int) am_g294 165 [some (.ref 133), some (.int (nI s)), some (.int (nI w)), some (.int (nI od)), some (.long (lN (10 ^ w))), none, some (.long (lN x)), none, some (.int (nI f)), some (.long (lN (shM f od w))), none, some (.int (nI w)), p12] [] (am_hp n μ1 ν) (Q) := by
  have k4 := (hoI s hs).1
  refine am_q_lload rfl rfl ?_
  refine am_q_aload_n rfl rfl ?_
  refine am_q_sipush (v := nI 798) rfl rfl ?_
  refine am_q_iload_n rfl rfl ?_
  refine am_q_call rfl rfl (m_isNowW _ n ν 798 (by decide) hT s hs) rfl ?_
  refine am_q_iconst (v := nI 2) rfl rfl ?_
  refine am_q_ineN rfl (by omega) (by omega) (fun c_176 => ?_) (fun c_176 => ?_)
  · refine am_q_lconst (v := lN 0) rfl rfl ?_
    refine am_q_ladd rfl (lN_add _ _) ?_
    refine am_q_lstore [some _, some _, some _, some _, some _, none, some _, none, some _, some _, none, some _, _] rfl (Nat.le_of_ble_eq_true rfl) rfl ?_
    refine am_q_iinc [some _, some _, some _, some _, some _, none, some _, none, some _, some _, none, some _, _] rfl (c := nI 1) rfl rfl (Nat.le_of_ble_eq_true rfl) (nI_add _ _) rfl ?_
    refine am_q_goto rfl ?_
    first | exact K1 c_176 | exact K2 c_176
  · refine am_q_lload rfl rfl ?_
    refine am_q_goto rfl ?_
    refine am_q_ladd rfl (lN_add _ _) ?_
    refine am_q_lstore [some _, some _, some _, some _, some _, none, some _, none, some _, some _, none, some _, _] rfl (Nat.le_of_ble_eq_true rfl) rfl ?_
    refine am_q_iinc [some _, some _, some _, some _, some _, none, some _, none, some _, some _, none, some _, _] rfl (c := nI 1) rfl rfl (Nat.le_of_ble_eq_true rfl) (nI_add _ _) rfl ?_
    refine am_q_goto rfl ?_
    first | exact K1 c_176 | exact K2 c_176

theorem m_chO (d : Nat) (n : Nat) {V : sVal} {W : sWall} {μ : am_M2} (ν : am_N2) (hV : mVal μ V) (hO : vOk V) (hW : mWall μ 0 W) (hI : sI (vN V) (vP V) W.1 W.2.1) (ht : W.2.2 < 2 ^ 20) (s w od : Nat) (hs : s < vN V) (hw1 : 1 ≤ w) (hw : w ≤ 6) (ho : od ≤ 10) : ∀ (m j : Nat) (μ1 : am_M2) (o9 : Option Value) (o10 : Option Value) (o11 : Option Value) (o12 : Option Value), j + m = 2 ^ w → fr μ μ1 → am_w (d + 5) (Option.some FieldType.int) am_g294 77 [some (.ref 133), some (.int (nI s)), some (.int (nI w)), some (.int (nI od)), some (.long (lN (10 ^ w))), none, some (.long (lN (cSuM V W s w od j))), none, some (.int (nI j)), o9, o10, o11, o12] [] (am_hp n μ1 ν) (fun y => ∃ (μ' : am_M2), y = (some (.int (nI (cSum V W s w od (2 ^ w)))), am_hp n μ' ν) ∧ fr μ μ') := by
  intro m
  induction m with
  | zero =>
    intro j μ1 o9 o10 o11 o12 hj hinv
    have h6 := hO.1.1
    have hP8 := hO.1.2.1
    have h8 := sI_8 hO hI
    have hpk := sI_p hI
    have h2w := p2w w hw
    have h10 := p10 w hw
    have hcl := cSuM_le (V := V) (W := W) (s := s) (w := w) ho j
    have hc2 : j * 10 ^ w ≤ 64 * 1000000 := Nat.mul_le_mul (by omega) h10
    have hpos : 0 < 10 ^ w := Nat.pow_pos (by decide)
    refine am_q_iload rfl rfl ?_
    refine am_q_iconst (v := nI 1) rfl rfl ?_
    refine am_q_iload_n rfl rfl ?_
    refine am_q_ishl rfl (sn_shl1 (by omega)) ?_
    refine am_q_igeN rfl (by omega) (by omega) (fun c_82 => ?_) (fun c_82 => absurd c_82 (by omega))
    refine am_q_lload rfl rfl ?_
    refine am_q_ldc2_w (v := lN 1000000) rfl rfl ?_
    refine am_q_lmul rfl (lN_mul _ _) ?_
    refine am_q_lload rfl rfl ?_
    refine am_q_ldiv rfl (lN_ne0 hpos (by omega)) (pk_lDiv (by omega) hpos (by omega)) ?_
    refine am_q_l2i rfl (lN_i _) ?_
    refine am_q_ireturn rfl rfl rfl ?_
    rw [show j = 2 ^ w by omega, cSu_div hw, ← cSu_6 hw]
    exact ⟨_, rfl, hinv⟩
  | succ m ih =>
    intro j μ1 o9 o10 o11 o12 hj hinv
    have h6 := hO.1.1
    have hP8 := hO.1.2.1
    have h8 := sI_8 hO hI
    have hpk := sI_p hI
    have h2w := p2w w hw
    have hV1 := mVal_fr hinv hV
    have hW1 := mWall_fr hinv (by decide) hW
    refine am_q_iload rfl rfl ?_
    refine am_q_iconst (v := nI 1) rfl rfl ?_
    refine am_q_iload_n rfl rfl ?_
    refine am_q_ishl rfl (sn_shl1 (by omega)) ?_
    refine am_q_igeN rfl (by omega) (by omega) (fun c_82 => absurd c_82 (by omega)) (fun c_82 => ?_)
    refine am_q_aload_n rfl rfl ?_
    obtain ⟨μ2, hc2, hf2, hW2⟩ := m_tries _ n ν hW1
    refine am_q_call rfl rfl (hc2) rfl ?_
    refine am_q_lconst (v := lN 1) rfl rfl ?_
    refine am_q_lstore [some _, some _, some _, some _, some _, none, some _, none, some _, some _, none, _, _] rfl (Nat.le_of_ble_eq_true rfl) rfl ?_
    refine am_q_iconst (v := nI 0) rfl rfl ?_
    refine am_q_istore [some _, some _, some _, some _, some _, none, some _, none, some _, some _, none, some _, _] rfl (Nat.le_of_ble_eq_true rfl) rfl ?_
    refine m_chI d n ν hV hO hW hI ht s w od j (cSuM V W s w od j) hs hw ho (by omega) _ (fun μ3 p12 hf3 hT3 => ?_) w 0 _ _ (by omega) ⟨fr_tr hinv hf2, hW2⟩
    exact m_chT d n ν s w od j _ hf3 hT3 (by omega) (olT_I (f := j) hI w).1 h6 p12 _ (fun q => by have e := ih (j + 1) _ (some (.long (lN (shM j od w)))) none (some (.int (nI w))) p12 (by omega) hf3; rw [cSuM_s, if_pos q] at e; exact e) (fun q => by have e := ih (j + 1) _ (some (.long (lN (shM j od w)))) none (some (.int (nI w))) p12 (by omega) hf3; rw [cSuM_s, if_neg q] at e; exact e)

theorem m_chP (d n s w od : Nat) (hw : w ≤ 6) (h : am_H) (Q : am_R → Prop) (K : am_w (d + 5) (Option.some FieldType.int) am_g294 71 [some (.ref 133), some (.int (nI s)), some (.int (nI w)), some (.int (nI od)), some (.long (lN (10 ^ w))), none, some (.int (nI w)), none, none, none, none, none, none] [] h Q) : ∀ (m j : Nat) , j + m = w → am_w (d + 5) (Option.some FieldType.int) am_g294 51 [some (.ref 133), some (.int (nI s)), some (.int (nI w)), some (.int (nI od)), some (.long (lN (10 ^ j))), none, some (.int (nI j)), none, none, none, none, none, none] [] (h) (Q) := by
  intro m
  induction m with
  | zero =>
    intro j  hj
    refine am_q_iload rfl rfl ?_
    refine am_q_iload_n rfl rfl ?_
    refine am_q_igeN rfl (by omega) (by omega) (fun c_54 => ?_) (fun c_54 => absurd c_54 (by omega))
    rw [show j = w by omega]
    exact K
  | succ m ih =>
    intro j  hj
    refine am_q_iload rfl rfl ?_
    refine am_q_iload_n rfl rfl ?_
    refine am_q_igeN rfl (by omega) (by omega) (fun c_54 => absurd c_54 (by omega)) (fun c_54 => ?_)
    refine am_q_lload rfl rfl ?_
    refine am_q_ldc2_w (v := lN 10) rfl rfl ?_
    refine am_q_lmul rfl (lN_mul _ _) ?_
    refine am_q_lstore [some _, some _, some _, some _, some _, none, some _, none, none, none, none, none, none] rfl (Nat.le_of_ble_eq_true rfl) rfl ?_
    refine am_q_iinc [some _, some _, some _, some _, some _, none, some _, none, none, none, none, none, none] rfl (c := nI 1) rfl rfl (Nat.le_of_ble_eq_true rfl) (nI_add _ _) rfl ?_
    refine am_q_goto rfl ?_
    (have e := ih (j + 1) (by omega); rw [Nat.pow_succ] at e; exact e)

/-- StoneSecretsModel.chance(III)I -/
theorem m_chance (d : Nat) (s w od : Int32) (n : Nat) {V : sVal} {W : sWall} {μ : am_M2} (ν : am_N2) (hV : mVal μ V) (hO : vOk V) (hW : mWall μ 0 W) (hI : sI (vN V) (vP V) W.1 W.2.1) (ht : W.2.2 < 2 ^ 20) : ∃ (μ' : am_M2), am_run (d + 6) 294 [.ref 133, .int s, .int w, .int od] (am_hp n μ ν) = some (some (.int (qChance V W s w od)), am_hp n μ' ν) ∧ fr μ μ' := by
  have h6 := hO.1.1
  have hP8 := hO.1.2.1
  have h8 := sI_8 hO hI
  have hpk := sI_p hI
  have hV0 := mVal_fr (fr_thr μ) hV
  have hW0 := mWall_fr (fr_thr μ) (by decide) hW
  have key : ∃ r, am_run (d + 6) 294 [.ref 133, .int s, .int w, .int od] (am_hp n μ ν) = some r ∧ ∃ (μ' : am_M2), r = (some (.int (qChance V W s w od)), am_hp n μ' ν) ∧ fr μ μ' := am_run_wE (k := 294) (d := d + 5) rfl rfl (Nat.le_of_ble_eq_true rfl) [some (.ref 133), some (.int s), some (.int w), some (.int od), none, none, none, none, none, none, none, none, none] rfl (by
    refine am_q_aload_n rfl rfl ?_
    refine am_q_iconst (v := nI 0) rfl rfl ?_
    refine am_q_pi rfl rfl rfl (Or.inl rfl) ?_
    refine am_q_aload_n rfl rfl ?_
    refine am_q_iload_n rfl rfl ?_
    refine am_q_call rfl rfl (m_isSoul _ _ _ _ hV0 hO) rfl ?_
    refine am_q_if_eqB rfl (fun c_10 => ?_) (fun c_10 => ?_)
    · refine am_q_iconst (v := -1) rfl rfl ?_
      refine am_q_ireturn rfl rfl rfl ?_
      rw [qChance, if_neg (by unfold sIs; rw [isN c_10]; exact Bool.false_ne_true)]
      exact ⟨_, rfl, fr_thr μ⟩
    · obtain ⟨k, hk, rfl, hix⟩ := isI c_10 (by omega)
      have k4 := (hI k (by omega)).1
      have hsk := sIs_nI (x := 2) (st := W.1) hk (by omega)
      refine am_q_aload_n rfl rfl ?_
      refine am_q_iconst (v := nI 0) rfl rfl ?_
      refine am_q_iload_n rfl rfl ?_
      refine am_q_call rfl rfl (m_isNowW _ n ν 0 (by decide) hW0 _ (by omega)) rfl ?_
      refine am_q_iconst (v := nI 2) rfl rfl ?_
      refine am_q_ineN rfl (by omega) (by omega) (fun c_20 => ?_) (fun c_20 => ?_)
      · refine am_q_iconst (v := -1) rfl rfl ?_
        refine am_q_ireturn rfl rfl rfl ?_
        rw [qChance, if_neg (by rw [hsk, decide_eq_false c_20]; exact Bool.false_ne_true)]
        exact ⟨_, rfl, fr_thr μ⟩
      · refine am_q_iload_n rfl rfl ?_
        refine am_q_iconst (v := nI 1) rfl rfl ?_
        refine am_q_bipush (v := nI 6) rfl rfl ?_
        refine am_q_call rfl rfl (m_within _ _ _ _ _) rfl ?_
        refine am_q_if_eqB rfl (fun c_30 => ?_) (fun c_30 => ?_)
        · refine am_q_iconst (v := -1) rfl rfl ?_
          refine am_q_ireturn rfl rfl rfl ?_
          rw [qChance, if_neg (by rw [c_30, Bool.and_false]; exact Bool.false_ne_true)]
          exact ⟨_, rfl, fr_thr μ⟩
        · obtain ⟨w1, hw1, hw6, rfl⟩ := rIn_k c_30 (by decide) (by decide)
          refine am_q_iload_n rfl rfl ?_
          refine am_q_iconst (v := nI 0) rfl rfl ?_
          refine am_q_bipush (v := nI 10) rfl rfl ?_
          refine am_q_call rfl rfl (m_within _ _ _ _ _) rfl ?_
          refine am_q_if_neB rfl (fun c_40 => ?_) (fun c_40 => ?_)
          · obtain ⟨od1, -, ho, rfl⟩ := rIn_k c_40 (by decide) (by decide)
            refine am_q_lconst (v := lN 1) rfl rfl ?_
            refine am_q_lstore [some _, some _, some _, some _, some _, none, none, none, none, none, none, none, none] rfl (Nat.le_of_ble_eq_true rfl) rfl ?_
            refine am_q_iconst (v := nI 0) rfl rfl ?_
            refine am_q_istore [some _, some _, some _, some _, some _, none, some _, none, none, none, none, none, none] rfl (Nat.le_of_ble_eq_true rfl) rfl ?_
            refine m_chP d n k w1 od1 hw6 _ _ ?_ w1 0 (by omega)
            refine am_q_lconst (v := lN 0) rfl rfl ?_
            refine am_q_lstore [some _, some _, some _, some _, some _, none, some _, none, none, none, none, none, none] rfl (Nat.le_of_ble_eq_true rfl) rfl ?_
            refine am_q_iconst (v := nI 0) rfl rfl ?_
            refine am_q_istore [some _, some _, some _, some _, some _, none, some _, none, some _, none, none, none, none] rfl (Nat.le_of_ble_eq_true rfl) rfl ?_
            rw [qChance, if_pos (by rw [hsk, decide_eq_true c_20, c_30, c_40]; rfl), ik_nI (by omega), ik_nI (by omega), ik_nI (by omega)]
            exact m_chO d n ν hV hO hW hI ht k w1 od1 hk hw1 hw6 ho (2 ^ w1) 0 _ none none none none (by omega) (fr_thr μ)
          · refine am_q_iconst (v := -1) rfl rfl ?_
            refine am_q_ireturn rfl rfl rfl ?_
            rw [qChance, if_neg (by rw [c_40, Bool.and_false]; exact Bool.false_ne_true)]
            exact ⟨_, rfl, fr_thr μ⟩)
  obtain ⟨r, h1, μ', h2, h3⟩ := key
  exact ⟨μ', by rw [h1, h2], h3⟩
