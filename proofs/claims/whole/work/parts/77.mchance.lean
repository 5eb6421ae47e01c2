def pw (w : Nat) : Nat := 10 ^ w
/-- how likely just these frosts are, out of 10 ^ w -/
def shM (f od : Nat) : Nat → Nat := lpF (fun i x => x * (if f.testBit i = true then od else 10 - od)) 1
theorem shM_s (f od i : Nat) : shM f od (i + 1) = shM f od i * (if f.testBit i = true then od else 10 - od) := rfl
theorem shM_le {f od : Nat} (h : od ≤ 10) : ∀ n, shM f od n ≤ 10 ^ n
  | 0 => Nat.le_refl _
  | n + 1 => by
    rw [shM_s, Nat.pow_succ]
    refine Nat.mul_le_mul (shM_le h n) ?_
    split <;> omega
theorem shN_s (f w od i : Nat) : shN f w od (i + 1) = if w ≤ i then shN f w od i * 10 else shN f w od i * (if f.testBit i = true then od else 10 - od) := rfl
theorem shN_M {f w od : Nat} : ∀ n, n ≤ w → shN f w od n = shM f od n
  | 0, _ => rfl
  | n + 1, h => by rw [shN_s, if_neg (by omega), shN_M n (by omega), shM_s]
theorem shN_6 {f w od : Nat} : ∀ m, shN f w od (w + m) = shM f od w * 10 ^ m
  | 0 => by rw [Nat.add_zero, shN_M w (Nat.le_refl _), Nat.pow_zero, Nat.mul_one]
  | m + 1 => by rw [show w + (m + 1) = (w + m) + 1 by omega, shN_s, if_pos (by omega), shN_6 m, Nat.pow_succ, Nat.mul_assoc]
def cSuM (V : sVal) (W : sWall) (s w od : Nat) : Nat → Nat := lpF (fun f x => if (olT V W f w).1 s = 2 then x + shM f od w else x) 0
theorem cSuM_s (V : sVal) (W : sWall) (s w od f : Nat) : cSuM V W s w od (f + 1) = if (olT V W f w).1 s = 2 then cSuM V W s w od f + shM f od w else cSuM V W s w od f := rfl
theorem cSuM_le {V : sVal} {W : sWall} {s w od : Nat} (h : od ≤ 10) : ∀ n, cSuM V W s w od n ≤ n * 10 ^ w
  | 0 => Nat.zero_le _
  | n + 1 => by
    have := cSuM_le (V := V) (W := W) (s := s) (w := w) h n
    have := shM_le (f := n) h w
    rw [cSuM_s, Nat.succ_mul]
    split <;> omega
theorem cSu_6 {V : sVal} {W : sWall} {s w od : Nat} (hw : w ≤ 6) : ∀ n, cSum V W s w od n = cSuM V W s w od n * 10 ^ (6 - w)
  | 0 => by simp [cSum, cSuM, lpF]
  | n + 1 => by
    have e : cSum V W s w od (n + 1) = if (olT V W n w).1 s = 2 then cSum V W s w od n + shN n w od 6 else cSum V W s w od n := rfl
    rw [e, cSuM_s, cSu_6 hw n, show shN n w od 6 = shM n od w * 10 ^ (6 - w) by have := shN_6 (f := n) (w := w) (od := od) (6 - w); rw [show w + (6 - w) = 6 by omega] at this; exact this]
    split
    · rw [Nat.add_mul]
    · rfl
theorem cSu_div {a w : Nat} (hw : w ≤ 6) : a * 1000000 / 10 ^ w = a * 10 ^ (6 - w) := by
  have e : (1000000 : Nat) = 10 ^ (6 - w) * 10 ^ w := by rw [← Nat.pow_add, show 6 - w + w = 6 by omega]
  rw [e, ← Nat.mul_assoc]
  exact Nat.mul_div_cancel _ (Nat.pow_pos (by decide))
theorem p10 : ∀ w, w ≤ 6 → 10 ^ w ≤ 1000000 := by decide
theorem p2w : ∀ w, w ≤ 6 → 2 ^ w ≤ 64 := by decide
theorem olT_s (V : sVal) (W : sWall) (f i : Nat) : olT V W f (i + 1) = wk V (olT V W f i) (if f.testBit i = true then 9 else 0) := rfl
theorem m_chI (d : Nat) (n : Nat) {V : sVal} {W : sWall} {μ : am_M2} (ν : am_N2) (hV : mVal μ V) (hO : vOk V) (hW : mWall μ 0 W) (hI : sI (vN V) (vP V) W.1 W.2.1) (ht : W.2.2 < 2 ^ 20) (s w od f x : Nat) (hs : s < vN V) (hw : w ≤ 6) (ho : od ≤ 10) (hf : f < 2 ^ 31) (Q : am_R → Prop) (K : ∀ μ1 o12, fr μ μ1 → mWall μ1 798 (olT V W f w) → am_w (d + 5) (Option.some FieldType.int) am_g294 165 [some (.ref 133), some (.int (nI s)), some (.int (nI w)), some (.int (nI od)), some (.long (lN (10 ^ w))), none, some (.long (lN x)), none, some (.int (nI f)), some (.long (lN (shM f od w))), none, some (.int (nI w)), o12] [] (am_hp n μ1 ν) Q) : ∀ (m j : Nat) (μ1 : am_M2) (o12 : Option Value), j + m = w → fr μ μ1 ∧ mWall μ1 798 (olT V W f j) → am_w (d + 5) (Option.some FieldType.int) am_g294 95 [some (.ref 133), some (.int (nI s)), some (.int (nI w)), some (.int (nI od)), some (.long (lN (10 ^ w))), none, some (.long (lN x)), none, some (.int (nI f)), some (.long (lN (shM f od j))), none, some (.int (nI j)), o12] [] (am_hp n μ1 ν) (Q) := by
  intro m
  induction m with
  | zero =>
    intro j μ1 o12 hj hinv
    refine am_q_iload rfl rfl ?_
    refine am_q_iload_n rfl rfl ?_
    refine am_q_igeN rfl (by omega) (by omega) (fun c_98 => ?_) (fun c_98 => absurd c_98 (by omega))
    have hjw : j = w := by omega
    rw [hjw] at hinv ⊢
    exact K _ _ hinv.1 hinv.2
  | succ m ih =>
    intro j μ1 o12 hj hinv
    have h6 := hO.1.1
    have hP8 := hO.1.2.1
    have h8 := sI_8 hO hI
    have hpk := sI_p hI
    have hV1 := mVal_fr hinv.1 hV
    have hoI := olT_I (f := f) hI j
    have htb := tb_1 f j
    refine am_q_iload rfl rfl ?_
    refine am_q_iload_n rfl rfl ?_
    refine am_q_igeN rfl (by omega) (by omega) (fun c_98 => absurd c_98 (by omega)) (fun c_98 => ?_)
    refine am_q_iload rfl rfl ?_
    refine am_q_iload rfl rfl ?_
    refine am_q_ishr rfl (sn_shr (by omega) (by omega)) ?_
    refine am_q_iconst (v := nI 1) rfl rfl ?_
    refine am_q_iand rfl (show nI (f / 2 ^ j) &&& nI 1 = nI (f / 2 ^ j % 2) from fa_mask _ 1) ?_
    refine am_q_iconst (v := nI 1) rfl rfl ?_
    refine am_q_ineN rfl (by omega) (by omega) (fun c_109 => ?_) (fun c_109 => ?_)
    · have hb := (tb_0 f j).mp c_109
      obtain ⟨μ2, hc2, hW2, hf2⟩ := m_passes d n ν hV1 hO 798 (by decide) hinv.2 hoI.1 0 (by decide) (by omega)
      have hT : mWall μ2 798 (olT V W f (j + 1)) := by rw [olT_s, hb]; exact hW2
      have hm : shM f od (j + 1) = shM f od j * (10 - od) := by rw [shM_s, hb]; rfl
      refine am_q_iconst (v := nI 0) rfl rfl ?_
      refine am_q_istore [some _, some _, some _, some _, some _, none, some _, none, some _, some _, none, some _, some _] rfl (Nat.le_of_ble_eq_true rfl) rfl ?_
      refine am_q_lload rfl rfl ?_
      refine am_q_iload rfl rfl ?_
      refine am_q_zeqN rfl (by omega) (fun c_123 => ?_) (fun c_123 => absurd c_123 (by omega))
      refine am_q_ldc2_w (v := lN 10) rfl rfl ?_
      refine am_q_iload_n rfl rfl ?_
      refine am_q_i2l rfl (nI_l (by omega)) ?_
      refine am_q_lsub rfl (lN_sub (by omega)) ?_
      refine am_q_lmul rfl (lN_mul _ _) ?_
      refine am_q_lstore [some _, some _, some _, some _, some _, none, some _, none, some _, some _, none, some _, some _] rfl (Nat.le_of_ble_eq_true rfl) rfl ?_
      refine am_q_aload_n rfl rfl ?_
      refine am_q_sipush (v := nI 798) rfl rfl ?_
      refine am_q_iload rfl rfl ?_
      refine am_q_zeqN rfl (by omega) (fun c_146 => ?_) (fun c_146 => absurd c_146 (by omega))
      refine am_q_iconst (v := nI 0) rfl rfl ?_
      refine am_q_call rfl rfl (hc2) rfl ?_
      refine am_q_popi rfl ?_
      refine am_q_iinc [some _, some _, some _, some _, some _, none, some _, none, some _, some _, none, some _, some _] rfl (c := nI 1) rfl rfl (Nat.le_of_ble_eq_true rfl) (nI_add _ _) rfl ?_
      refine am_q_goto rfl ?_
      (have e := fun o => ih (j + 1) _ o (by omega) ⟨fr_tr hinv.1 (fr_B hf2), hT⟩; rw [hm] at e; exact e _)
    · have hb := htb.mp c_109
      obtain ⟨μ2, hc2, hW2, hf2⟩ := m_passes d n ν hV1 hO 798 (by decide) hinv.2 hoI.1 9 (by decide) (by omega)
      have hT : mWall μ2 798 (olT V W f (j + 1)) := by rw [olT_s, hb]; exact hW2
      have hm : shM f od (j + 1) = shM f od j * od := by rw [shM_s, hb]; rfl
      refine am_q_iconst (v := nI 1) rfl rfl ?_
      refine am_q_goto rfl ?_
      refine am_q_istore [some _, some _, some _, some _, some _, none, some _, none, some _, some _, none, some _, some _] rfl (Nat.le_of_ble_eq_true rfl) rfl ?_
      refine am_q_lload rfl rfl ?_
      refine am_q_iload rfl rfl ?_
      refine am_q_zeqN rfl (by omega) (fun c_123 => absurd c_123 (by omega)) (fun c_123 => ?_)
      refine am_q_iload_n rfl rfl ?_
      refine am_q_i2l rfl (nI_l (by omega)) ?_
      refine am_q_goto rfl ?_
      refine am_q_lmul rfl (lN_mul _ _) ?_
      refine am_q_lstore [some _, some _, some _, some _, some _, none, some _, none, some _, some _, none, some _, some _] rfl (Nat.le_of_ble_eq_true rfl) rfl ?_
      refine am_q_aload_n rfl rfl ?_
      refine am_q_sipush (v := nI 798) rfl rfl ?_
      refine am_q_iload rfl rfl ?_
      refine am_q_zeqN rfl (by omega) (fun c_146 => absurd c_146 (by omega)) (fun c_146 => ?_)
      refine am_q_bipush (v := nI 9) rfl rfl ?_
      refine am_q_goto rfl ?_
      refine am_q_call rfl rfl (hc2) rfl ?_
      refine am_q_popi rfl ?_
      refine am_q_iinc [some _, some _, some _, some _, some _, none, some _, none, some _, some _, none, some _, some _] rfl (c := nI 1) rfl rfl (Nat.le_of_ble_eq_true rfl) (nI_add _ _) rfl ?_
      refine am_q_goto rfl ?_
      (have e := fun o => ih (j + 1) _ o (by omega) ⟨fr_tr hinv.1 (fr_B hf2), hT⟩; rw [hm] at e; exact e _)
