theorem i_nge {q : Option Nat} (hq : ∀ x, q = some x → x < 2 ^ 31) (h : sn_place q < 0) : q = none := sn_place_nge hq (i_nlt h)
theorem i_ge {q : Option Nat} (hq : ∀ x, q = some x → x < 2 ^ 31) (h : ¬ sn_place q < 0) : ∃ i, q = some i := sn_place_ge hq (fa_of_nlt h)
theorem m_heavyL (d : Nat) (n : Nat) {V : sVal} {W : sWall} {μ : am_M2} (ν : am_N2) (hV : mVal μ V) (hO : vOk V) (hW : mWall μ 0 W) (hI : sI (vN V) (vP V) W.1 W.2.1) (ht : W.2.2 < 2 ^ 20) : ∀ (m j : Nat) , j + m = vN V → am_w (d + 2) (Option.some FieldType.int) am_g290 9 [some (.ref 133), some (.int (sn_place (sHeavy V W j))), some (.int (nI j))] [] (am_hp n (am_up μ 133 0 (nI 0)) ν) (fun y => y = (some (.int (sn_place (sHeavy V W (vN V)))), am_hp n (am_up μ 133 0 (nI 0)) ν)) := by
  intro m
  induction m with
  | zero =>
    intro j  hj
    have h6 := hO.1.1
    have hP8 := hO.1.2.1
    have h8 := sI_8 hO hI
    have hpk := sI_p hI
    have hV0 := mVal_fr (fr_thr μ) hV
    have hW0 := mWall_fr (fr_thr μ) (by decide) hW
    refine am_q_iload_n rfl rfl ?_
    refine am_q_aload_n rfl rfl ?_
    refine am_q_call rfl rfl (m_souls _ _ _ hV0) rfl ?_
    refine am_q_igeN rfl (by omega) (by omega) (fun c_14 => ?_) (fun c_14 => absurd c_14 (by omega))
    refine am_q_iload_n rfl rfl ?_
    refine am_q_ireturn rfl rfl rfl ?_
    rw [show j = vN V by omega]
  | succ m ih =>
    intro j  hj
    have h6 := hO.1.1
    have hP8 := hO.1.2.1
    have h8 := sI_8 hO hI
    have hpk := sI_p hI
    have hV0 := mVal_fr (fr_thr μ) hV
    have hW0 := mWall_fr (fr_thr μ) (by decide) hW
    have e := ih (j + 1) (by omega)
    have k4 := (hI j (by omega)).1
    have hlt := sHeavy_lt V W j
    have hwj := vW_le hO (show j < vN V by omega)
    refine am_q_iload_n rfl rfl ?_
    refine am_q_aload_n rfl rfl ?_
    refine am_q_call rfl rfl (m_souls _ _ _ hV0) rfl ?_
    refine am_q_igeN rfl (by omega) (by omega) (fun c_14 => absurd c_14 (by omega)) (fun c_14 => ?_)
    refine am_q_aload_n rfl rfl ?_
    refine am_q_iconst (v := nI 0) rfl rfl ?_
    refine am_q_iload_n rfl rfl ?_
    refine am_q_call rfl rfl (m_isNowW _ n ν 0 (by decide) hW0 _ (by omega)) rfl ?_
    refine am_q_iconst (v := nI 2) rfl rfl ?_
    refine am_q_ineN rfl (by omega) (by omega) (fun c_24 => ?_) (fun c_24 => ?_)
    · rw [sHeavy_n (fun z => c_24 z.1)] at e
      refine am_q_iload_n rfl rfl ?_
      refine am_q_istore_n [some _, some _, some _] rfl (Nat.le_of_ble_eq_true rfl) rfl ?_
      refine am_q_iinc [some _, some _, some _] rfl (c := nI 1) rfl rfl (Nat.le_of_ble_eq_true rfl) (nI_add _ _) rfl ?_
      refine am_q_goto rfl ?_
      exact e
    · refine am_q_iload_n rfl rfl ?_
      refine am_q_if_lt rfl (fun c_28 => ?_) (fun c_28 => ?_)
      · have hn := i_nge (fun z hz => by have := hlt z hz; omega) c_28
        rw [sHeavy_y c_24 (fun b hb => by rw [hn] at hb; cases hb)] at e
        refine am_q_iload_n rfl rfl ?_
        refine am_q_goto rfl ?_
        refine am_q_istore_n [some _, some _, some _] rfl (Nat.le_of_ble_eq_true rfl) rfl ?_
        refine am_q_iinc [some _, some _, some _] rfl (c := nI 1) rfl rfl (Nat.le_of_ble_eq_true rfl) (nI_add _ _) rfl ?_
        refine am_q_goto rfl ?_
        exact e
      · obtain ⟨i, hi⟩ := i_ge (fun z hz => by have := hlt z hz; omega) c_28
        have hij := hlt i hi
        have hwi := vW_le hO (show i < vN V by omega)
        refine am_q_aload_n rfl rfl ?_
        refine am_q_iload_n rfl rfl ?_
        refine am_q_call rfl rfl (m_weightOf _ _ _ hV0 hO _ (by omega)) rfl ?_
        refine am_q_aload_n rfl rfl ?_
        refine am_q_iload_n rfl rfl ?_
        refine am_q_call rfl rfl ((show am_run _ _ [.ref 133, .int (sn_place (sHeavy V W j))] _ = _ by rw [hi]; exact m_weightOf _ n ν hV0 hO i (by omega))) rfl ?_
        refine am_q_ileN rfl (by omega) (by omega) (fun c_41 => ?_) (fun c_41 => ?_)
        · rw [sHeavy_n (fun z => by have := z.2 i hi; omega)] at e
          refine am_q_iload_n rfl rfl ?_
          refine am_q_istore_n [some _, some _, some _] rfl (Nat.le_of_ble_eq_true rfl) rfl ?_
          refine am_q_iinc [some _, some _, some _] rfl (c := nI 1) rfl rfl (Nat.le_of_ble_eq_true rfl) (nI_add _ _) rfl ?_
          refine am_q_goto rfl ?_
          exact e
        · rw [sHeavy_y c_24 (fun b hb => by rw [hi] at hb; cases hb; exact c_41)] at e
          refine am_q_iload_n rfl rfl ?_
          refine am_q_goto rfl ?_
          refine am_q_istore_n [some _, some _, some _] rfl (Nat.le_of_ble_eq_true rfl) rfl ?_
          refine am_q_iinc [some _, some _, some _] rfl (c := nI 1) rfl rfl (Nat.le_of_ble_eq_true rfl) (nI_add _ _) rfl ?_
          refine am_q_goto rfl ?_
          exact e

/-- StoneSecretsModel.heavy()I -/
theorem m_heavy (d : Nat) (n : Nat) {V : sVal} {W : sWall} {μ : am_M2} (ν : am_N2) (hV : mVal μ V) (hO : vOk V) (hW : mWall μ 0 W) (hI : sI (vN V) (vP V) W.1 W.2.1) (ht : W.2.2 < 2 ^ 20) : am_run (d + 3) 290 [.ref 133] (am_hp n μ ν) = some (some (.int (sn_place (sHeavy V W (vN V)))), am_hp n (am_up μ 133 0 (nI 0)) ν) := by
  refine am_r290 (d := d + 2) (Nat.le_of_ble_eq_true rfl) [some (.ref 133), none, none] rfl ?_
  refine am_q_aload_n rfl rfl ?_
  refine am_q_iconst (v := nI 0) rfl rfl ?_
  refine am_q_pi rfl rfl rfl (Or.inl rfl) ?_
  refine am_q_iconst (v := -1) rfl rfl ?_
  refine am_q_istore_n [some _, some _, none] rfl (Nat.le_of_ble_eq_true rfl) rfl ?_
  refine am_q_iconst (v := nI 0) rfl rfl ?_
  refine am_q_istore_n [some _, some _, some _] rfl (Nat.le_of_ble_eq_true rfl) rfl ?_
  exact m_heavyL d n ν hV hO hW hI ht (vN V) 0 (by omega)

theorem like_s (V : sVal) (i x j : Nat) : lpF (fun b y => if vW V i = vW V b then y + 1 else y) x (j + 1) = if vW V i = vW V j then lpF (fun b y => if vW V i = vW V b then y + 1 else y) x j + 1 else lpF (fun b y => if vW V i = vW V b then y + 1 else y) x j := rfl
theorem sLike_s (V : sVal) (i : Nat) : sLike V (i + 1) = lpF (fun b y => if vW V i = vW V b then y + 1 else y) (sLike V i) i := rfl
theorem m_likeI (d i x : Nat) (n : Nat) {V : sVal} {W : sWall} {μ : am_M2} (ν : am_N2) (hV : mVal μ V) (hO : vOk V) (hW : mWall μ 0 W) (hI : sI (vN V) (vP V) W.1 W.2.1) (ht : W.2.2 < 2 ^ 20) (hi : i < vN V) (Q : am_R → Prop) (K : am_w (d + 2) (Option.some FieldType.int) am_g293 51 [some (.ref 133), some (.int (nI (lpF (fun b y => if vW V i = vW V b then y + 1 else y) x i))), some (.int (nI i)), some (.int (nI i))] [] (am_hp n (am_up μ 133 0 (nI 0)) ν) Q) : ∀ (m j : Nat) , j + m = i → am_w (d + 2) (Option.some FieldType.int) am_g293 19 [some (.ref 133), some (.int (nI (lpF (fun b y => if vW V i = vW V b then y + 1 else y) x j))), some (.int (nI i)), some (.int (nI j))] [] (am_hp n (am_up μ 133 0 (nI 0)) ν) (Q) := by
  intro m
  induction m with
  | zero =>
    intro j  hj
    have h6 := hO.1.1
    have hP8 := hO.1.2.1
    have h8 := sI_8 hO hI
    have hpk := sI_p hI
    have hV0 := mVal_fr (fr_thr μ) hV
    have hW0 := mWall_fr (fr_thr μ) (by decide) hW
    refine am_q_iload_n rfl rfl ?_
    refine am_q_iload_n rfl rfl ?_
    refine am_q_igeN rfl (by omega) (by omega) (fun c_21 => ?_) (fun c_21 => absurd c_21 (by omega))
    rw [show j = i by omega]
    exact K
  | succ m ih =>
    intro j  hj
    have h6 := hO.1.1
    have hP8 := hO.1.2.1
    have h8 := sI_8 hO hI
    have hpk := sI_p hI
    have hV0 := mVal_fr (fr_thr μ) hV
    have hW0 := mWall_fr (fr_thr μ) (by decide) hW
    have e := ih (j + 1) (by omega)
    have h1 := vW_le hO (show j < vN V by omega)
    have h2 := vW_le hO hi
    refine am_q_iload_n rfl rfl ?_
    refine am_q_iload_n rfl rfl ?_
    refine am_q_igeN rfl (by omega) (by omega) (fun c_21 => absurd c_21 (by omega)) (fun c_21 => ?_)
    refine am_q_iload_n rfl rfl ?_
    refine am_q_aload_n rfl rfl ?_
    refine am_q_iload_n rfl rfl ?_
    refine am_q_call rfl rfl (m_weightOf _ _ _ hV0 hO _ (by omega)) rfl ?_
    refine am_q_aload_n rfl rfl ?_
    refine am_q_iload_n rfl rfl ?_
    refine am_q_call rfl rfl (m_weightOf _ _ _ hV0 hO _ (by omega)) rfl ?_
    refine am_q_ineN rfl (by omega) (by omega) (fun c_35 => ?_) (fun c_35 => ?_)
    · rw [like_s, if_neg c_35] at e
      refine am_q_iconst (v := nI 0) rfl rfl ?_
      refine am_q_iadd rfl (nI_add _ _) ?_
      refine am_q_istore_n [some _, some _, some _, some _] rfl (Nat.le_of_ble_eq_true rfl) rfl ?_
      refine am_q_iinc [some _, some _, some _, some _] rfl (c := nI 1) rfl rfl (Nat.le_of_ble_eq_true rfl) (nI_add _ _) rfl ?_
      refine am_q_goto rfl ?_
      exact e
    · rw [like_s, if_pos c_35] at e
      refine am_q_iconst (v := nI 1) rfl rfl ?_
      refine am_q_goto rfl ?_
      refine am_q_iadd rfl (nI_add _ _) ?_
      refine am_q_istore_n [some _, some _, some _, some _] rfl (Nat.le_of_ble_eq_true rfl) rfl ?_
      refine am_q_iinc [some _, some _, some _, some _] rfl (c := nI 1) rfl rfl (Nat.le_of_ble_eq_true rfl) (nI_add _ _) rfl ?_
      refine am_q_goto rfl ?_
      exact e

theorem m_likeL (d : Nat) (n : Nat) {V : sVal} {W : sWall} {μ : am_M2} (ν : am_N2) (hV : mVal μ V) (hO : vOk V) (hW : mWall μ 0 W) (hI : sI (vN V) (vP V) W.1 W.2.1) (ht : W.2.2 < 2 ^ 20) : ∀ (m j : Nat) (o3 : Option Value), j + m = vN V → am_w (d + 2) (Option.some FieldType.int) am_g293 9 [some (.ref 133), some (.int (nI (sLike V j))), some (.int (nI j)), o3] [] (am_hp n (am_up μ 133 0 (nI 0)) ν) (fun y => y = (some (.int (nI (sLike V (vN V)))), am_hp n (am_up μ 133 0 (nI 0)) ν)) := by
  intro m
  induction m with
  | zero =>
    intro j o3 hj
    have h6 := hO.1.1
    have hP8 := hO.1.2.1
    have h8 := sI_8 hO hI
    have hpk := sI_p hI
    have hV0 := mVal_fr (fr_thr μ) hV
    have hW0 := mWall_fr (fr_thr μ) (by decide) hW
    refine am_q_iload_n rfl rfl ?_
    refine am_q_aload_n rfl rfl ?_
    refine am_q_call rfl rfl (m_souls _ _ _ hV0) rfl ?_
    refine am_q_igeN rfl (by omega) (by omega) (fun c_14 => ?_) (fun c_14 => absurd c_14 (by omega))
    refine am_q_iload_n rfl rfl ?_
    refine am_q_ireturn rfl rfl rfl ?_
    rw [show j = vN V by omega]
  | succ m ih =>
    intro j o3 hj
    have h6 := hO.1.1
    have hP8 := hO.1.2.1
    have h8 := sI_8 hO hI
    have hpk := sI_p hI
    have hV0 := mVal_fr (fr_thr μ) hV
    have hW0 := mWall_fr (fr_thr μ) (by decide) hW
    refine am_q_iload_n rfl rfl ?_
    refine am_q_aload_n rfl rfl ?_
    refine am_q_call rfl rfl (m_souls _ _ _ hV0) rfl ?_
    refine am_q_igeN rfl (by omega) (by omega) (fun c_14 => absurd c_14 (by omega)) (fun c_14 => ?_)
    refine am_q_iconst (v := nI 0) rfl rfl ?_
    refine am_q_istore_n [some _, some _, some _, some _] rfl (Nat.le_of_ble_eq_true rfl) rfl ?_
    refine m_likeI d j (sLike V j) n ν hV hO hW hI ht (by omega) _ ?_ j 0 (by omega)
    rw [← sLike_s]
    refine am_q_iinc [some _, some _, some _, some _] rfl (c := nI 1) rfl rfl (Nat.le_of_ble_eq_true rfl) (nI_add _ _) rfl ?_
    refine am_q_goto rfl ?_
    exact ih (j + 1) _ (by omega)

/-- StoneSecretsModel.like()I -/
theorem m_like (d : Nat) (n : Nat) {V : sVal} {W : sWall} {μ : am_M2} (ν : am_N2) (hV : mVal μ V) (hO : vOk V) (hW : mWall μ 0 W) (hI : sI (vN V) (vP V) W.1 W.2.1) (ht : W.2.2 < 2 ^ 20) : am_run (d + 3) 293 [.ref 133] (am_hp n μ ν) = some (some (.int (nI (sLike V (vN V)))), am_hp n (am_up μ 133 0 (nI 0)) ν) := by
  refine am_r293 (d := d + 2) (Nat.le_of_ble_eq_true rfl) [some (.ref 133), none, none, none] rfl ?_
  refine am_q_aload_n rfl rfl ?_
  refine am_q_iconst (v := nI 0) rfl rfl ?_
  refine am_q_pi rfl rfl rfl (Or.inl rfl) ?_
  refine am_q_iconst (v := nI 0) rfl rfl ?_
  refine am_q_istore_n [some _, some _, none, none] rfl (Nat.le_of_ble_eq_true rfl) rfl ?_
  refine am_q_iconst (v := nI 0) rfl rfl ?_
  refine am_q_istore_n [some _, some _, some _, none] rfl (Nat.le_of_ble_eq_true rfl) rfl ?_
  exact m_likeL d n ν hV hO hW hI ht (vN V) 0 none (by omega)

theorem lean_y {V : sVal} {W : sWall} {j p : Nat} (h : W.2.1 j = some p) : lpF (fun s x => match W.2.1 s with | none => x | some p => x + nI (vW V s) * (nI (2 * p + 1) - nI (vP V))) (nI 0) (j + 1) = lpF (fun s x => match W.2.1 s with | none => x | some p => x + nI (vW V s) * (nI (2 * p + 1) - nI (vP V))) (nI 0) j + nI (vW V j) * (nI (2 * p + 1) - nI (vP V)) := by
  rw [lpF_s]
  simp only [h]
theorem lean_n {V : sVal} {W : sWall} {j : Nat} (h : W.2.1 j = none) : lpF (fun s x => match W.2.1 s with | none => x | some p => x + nI (vW V s) * (nI (2 * p + 1) - nI (vP V))) (nI 0) (j + 1) = lpF (fun s x => match W.2.1 s with | none => x | some p => x + nI (vW V s) * (nI (2 * p + 1) - nI (vP V))) (nI 0) j := by
  rw [lpF_s]
  simp only [h]
theorem m_leanL (d : Nat) (n : Nat) {V : sVal} {W : sWall} {μ : am_M2} (ν : am_N2) (hV : mVal μ V) (hO : vOk V) (hW : mWall μ 0 W) (hI : sI (vN V) (vP V) W.1 W.2.1) : ∀ (m j : Nat) , j + m = vN V → am_w (d + 2) (Option.some FieldType.int) am_g261 4 [some (.ref 133), some (.int (lpF (fun s x => match W.2.1 s with | none => x | some p => x + nI (vW V s) * (nI (2 * p + 1) - nI (vP V))) (nI 0) j)), some (.int (nI j))] [] (am_hp n μ ν) (fun y => y = (some (.int (qLean V W.2.1)), am_hp n μ ν)) := by
  intro m
  induction m with
  | zero =>
    intro j  hj
    have h6 := hO.1.1
    have hP8 := hO.1.2.1
    have h8 := sI_8 hO hI
    have hpk := sI_p hI
    refine am_q_iload_n rfl rfl ?_
    refine am_q_aload_n rfl rfl ?_
    refine am_q_call rfl rfl (m_souls _ _ _ hV) rfl ?_
    refine am_q_igeN rfl (by omega) (by omega) (fun c_9 => ?_) (fun c_9 => absurd c_9 (by omega))
    refine am_q_iload_n rfl rfl ?_
    refine am_q_if_ge rfl (fun c_60 => ?_) (fun c_60 => ?_)
    · refine am_q_iload_n rfl rfl ?_
      refine am_q_ireturn rfl rfl rfl ?_
      rw [show j = vN V by omega] at c_60 ⊢
      first | (rw [qLean, if_pos (show 0 ≤ sLean V W.2.1 from c_60)]; rfl) | (rw [qLean, if_neg (show ¬ 0 ≤ sLean V W.2.1 from c_60)]; rfl)
    · refine am_q_iload_n rfl rfl ?_
      refine am_q_ineg rfl rfl ?_
      refine am_q_goto rfl ?_
      refine am_q_ireturn rfl rfl rfl ?_
      rw [show j = vN V by omega] at c_60 ⊢
      first | (rw [qLean, if_pos (show 0 ≤ sLean V W.2.1 from c_60)]; rfl) | (rw [qLean, if_neg (show ¬ 0 ≤ sLean V W.2.1 from c_60)]; rfl)
  | succ m ih =>
    intro j  hj
    have h6 := hO.1.1
    have hP8 := hO.1.2.1
    have h8 := sI_8 hO hI
    have hpk := sI_p hI
    have e := ih (j + 1) (by omega)
    have k1 := hI j (by omega)
    have k4 := k1.1
    refine am_q_iload_n rfl rfl ?_
    refine am_q_aload_n rfl rfl ?_
    refine am_q_call rfl rfl (m_souls _ _ _ hV) rfl ?_
    refine am_q_igeN rfl (by omega) (by omega) (fun c_9 => absurd c_9 (by omega)) (fun c_9 => ?_)
    refine am_q_iload_n rfl rfl ?_
    refine am_q_aload_n rfl rfl ?_
    refine am_q_iconst (v := nI 0) rfl rfl ?_
    refine am_q_iload_n rfl rfl ?_
    refine am_q_call rfl rfl (m_isNowW _ n ν 0 (by decide) hW _ (by omega)) rfl ?_
    refine am_q_iconst (v := nI 2) rfl rfl ?_
    refine am_q_ineN rfl (by omega) (by omega) (fun c_20 => ?_) (fun c_20 => ?_)
    · rw [lean_n (by cases hq : W.2.1 j with | none => rfl | some p => exact absurd (k1.2.1.mp (by rw [hq]; rfl)) c_20)] at e
      refine am_q_iconst (v := nI 0) rfl rfl ?_
      refine am_q_iadd rfl (Int32.add_zero _) ?_
      refine am_q_istore_n [some _, some _, some _] rfl (Nat.le_of_ble_eq_true rfl) rfl ?_
      refine am_q_iinc [some _, some _, some _] rfl (c := nI 1) rfl rfl (Nat.le_of_ble_eq_true rfl) (nI_add _ _) rfl ?_
      refine am_q_goto rfl ?_
      exact e
    · obtain ⟨p, hpl⟩ := Option.isSome_iff_exists.mp (k1.2.1.mpr c_20)
      rw [lean_y hpl] at e
      have hps : μ 145 (7 + j) = nI p := by rw [show 7 + j = 0 + 7 + j by omega, (hW.2 j (by omega)).2, hpl]; rfl
      refine am_q_aload_n rfl rfl ?_
      refine am_q_iload_n rfl rfl ?_
      refine am_q_call rfl rfl (m_weightOf _ _ _ hV hO _ (by omega)) rfl ?_
      refine am_q_iconst (v := nI 2) rfl rfl ?_
      refine am_q_aload_n rfl rfl ?_
      refine am_q_gr rfl rfl rfl ?_
      refine am_q_bipush (v := nI 7) rfl rfl ?_
      refine am_q_iload_n rfl rfl ?_
      refine am_q_iadd rfl (nI_add _ _) ?_
      refine am_q_iald rfl rfl (am_ix_nI (show 7 + j < 836 by omega) (by decide)) hps ?_
      refine am_q_imul rfl (pk_mul _ _) ?_
      refine am_q_iconst (v := nI 1) rfl rfl ?_
      refine am_q_iadd rfl (nI_add _ _) ?_
      refine am_q_aload_n rfl rfl ?_
      refine am_q_call rfl rfl (m_places _ _ _ hV) rfl ?_
      refine am_q_isub rfl rfl ?_
      refine am_q_imul rfl rfl ?_
      refine am_q_goto rfl ?_
      refine am_q_iadd rfl rfl ?_
      refine am_q_istore_n [some _, some _, some _] rfl (Nat.le_of_ble_eq_true rfl) rfl ?_
      refine am_q_iinc [some _, some _, some _] rfl (c := nI 1) rfl rfl (Nat.le_of_ble_eq_true rfl) (nI_add _ _) rfl ?_
      refine am_q_goto rfl ?_
      exact e

/-- StoneSecretsModel.leanNow()I -/
theorem m_leanNow (d : Nat) (n : Nat) {V : sVal} {W : sWall} {μ : am_M2} (ν : am_N2) (hV : mVal μ V) (hO : vOk V) (hW : mWall μ 0 W) (hI : sI (vN V) (vP V) W.1 W.2.1) : am_run (d + 3) 261 [.ref 133] (am_hp n μ ν) = some (some (.int (qLean V W.2.1)), am_hp n μ ν) := by
  refine am_r261 (d := d + 2) (Nat.le_of_ble_eq_true rfl) [some (.ref 133), none, none] rfl ?_
  refine am_q_iconst (v := nI 0) rfl rfl ?_
  refine am_q_istore_n [some _, some _, none] rfl (Nat.le_of_ble_eq_true rfl) rfl ?_
  refine am_q_iconst (v := nI 0) rfl rfl ?_
  refine am_q_istore_n [some _, some _, some _] rfl (Nat.le_of_ble_eq_true rfl) rfl ?_
  exact m_leanL d n ν hV hO hW hI (vN V) 0 (by omega)

/-- StoneSecretsModel.lean()I -/
theorem m_lean (d : Nat) (n : Nat) {V : sVal} {W : sWall} {μ : am_M2} (ν : am_N2) (hV : mVal μ V) (hO : vOk V) (hW : mWall μ 0 W) (hI : sI (vN V) (vP V) W.1 W.2.1) (ht : W.2.2 < 2 ^ 20) : am_run (d + 4) 268 [.ref 133] (am_hp n μ ν) = some (some (.int (qLean V W.2.1)), am_hp n (am_up μ 133 0 (nI 0)) ν) := by
  have h6 := hO.1.1
  have hP8 := hO.1.2.1
  have h8 := sI_8 hO hI
  have hpk := sI_p hI
  have hV0 := mVal_fr (fr_thr μ) hV
  have hW0 := mWall_fr (fr_thr μ) (by decide) hW
  refine am_r268 (d := d + 3) (Nat.le_of_ble_eq_true rfl) [some (.ref 133)] rfl ?_
  refine am_q_aload_n rfl rfl ?_
  refine am_q_iconst (v := nI 0) rfl rfl ?_
  refine am_q_pi rfl rfl rfl (Or.inl rfl) ?_
  refine am_q_aload_n rfl rfl ?_
  refine am_q_call rfl rfl (m_leanNow _ n ν hV0 hO hW0 hI) rfl ?_
  refine am_q_ireturn rfl rfl rfl ?_
  rfl

theorem drop_f {V : sVal} {W : sWall} {k p : Nat} (h : W.2.1 k = some p) (c : Nat) : sFall V W.2.1 W.2.2 c k = sDrop V W k c := by
  unfold sFall sDrop oNb; rw [h]
theorem m_leastL (d k : Nat) (n : Nat) {V : sVal} {W : sWall} {μ : am_M2} (ν : am_N2) (hV : mVal μ V) (hO : vOk V) (hW : mWall μ 0 W) (hI : sI (vN V) (vP V) W.1 W.2.1) (ht : W.2.2 < 2 ^ 20) (hk : k < vN V) (hst : W.1 k = 2) : ∀ (m j : Nat) (μ1 : am_M2), j + m = 10 → fr μ μ1 ∧ (∀ i, i < j → sDrop V W k i = false) → am_w (d + 4) (Option.some FieldType.int) am_g256 7 [some (.ref 133), some (.int (nI k)), some (.int (nI j))] [] (am_hp n μ1 ν) (fun y => ∃ (μ' : am_M2), y = (some (.int (qLeast V W (nI k))), am_hp n μ' ν) ∧ fr μ μ') := by
  intro m
  induction m with
  | zero =>
    intro j μ1 hj hinv
    have h6 := hO.1.1
    have hP8 := hO.1.2.1
    have h8 := sI_8 hO hI
    have hpk := sI_p hI
    have hq : qLeast V W (nI k) = -1 := by rw [qLeast, if_pos (by rw [sIs_nI hk (by omega)]; exact decide_eq_true hst), ik_nI (by omega), if_neg (ff_no (fun i hi => hinv.2 i (by omega)))]
    rw [hq]
    refine am_q_iload_n rfl rfl ?_
    refine am_q_bipush (v := nI 10) rfl rfl ?_
    refine am_q_igeN rfl (by omega) (by omega) (fun c_10 => ?_) (fun c_10 => absurd c_10 (by omega))
    refine am_q_iconst (v := -1) rfl rfl ?_
    refine am_q_ireturn rfl rfl rfl ?_
    exact ⟨_, rfl, hinv.1⟩
  | succ m ih =>
    intro j μ1 hj hinv
    have h6 := hO.1.1
    have hP8 := hO.1.2.1
    have h8 := sI_8 hO hI
    have hpk := sI_p hI
    have hV0 := mVal_fr hinv.1 hV
    have hW0 := mWall_fr hinv.1 (by decide) hW
    have hix : am_ix (nI k) (vN V) = some k := am_ix_nI hk (by omega)
    obtain ⟨p, hpl⟩ := Option.isSome_iff_exists.mp ((hI k (by omega)).2.1.mpr hst)
    obtain ⟨μ2, hc2, hf2⟩ := m_doesFall d n ν hV0 hO 0 (by decide) hW0 hI k hk j (by omega) hst
    rw [drop_f hpl] at hc2
    refine am_q_iload_n rfl rfl ?_
    refine am_q_bipush (v := nI 10) rfl rfl ?_
    refine am_q_igeN rfl (by omega) (by omega) (fun c_10 => absurd c_10 (by omega)) (fun c_10 => ?_)
    refine am_q_aload_n rfl rfl ?_
    refine am_q_iload_n rfl rfl ?_
    refine am_q_call rfl rfl (m_isSoul _ _ _ _ hV0 hO) rfl ?_
    refine am_q_if_eqB rfl (fun c_18 => by rw [hix] at c_18; cases c_18) (fun c_18 => ?_)
    refine am_q_aload_n rfl rfl ?_
    refine am_q_iconst (v := nI 0) rfl rfl ?_
    refine am_q_iload_n rfl rfl ?_
    refine am_q_call rfl rfl (m_isNowW _ n ν 0 (by decide) hW0 _ (by omega)) rfl ?_
    refine am_q_iconst (v := nI 2) rfl rfl ?_
    refine am_q_ineN rfl (by omega) (by omega) (fun c_28 => absurd hst c_28) (fun c_28 => ?_)
    refine am_q_aload_n rfl rfl ?_
    refine am_q_iconst (v := nI 0) rfl rfl ?_
    refine am_q_iload_n rfl rfl ?_
    refine am_q_iload_n rfl rfl ?_
    refine am_q_call rfl rfl (hc2) rfl ?_
    refine am_q_if_eqB rfl (fun c_38 => ?_) (fun c_38 => ?_)
    · refine am_q_iinc [some _, some _, some _] rfl (c := nI 1) rfl rfl (Nat.le_of_ble_eq_true rfl) (nI_add _ _) rfl ?_
      refine am_q_goto rfl ?_
      exact ih (j + 1) _ (by omega) ⟨fr_tr hinv.1 (fr_D hf2), fun i hi => by
                by_cases z : i = j
                · rw [z]; exact c_38
                · exact hinv.2 i (by omega)⟩
    · refine am_q_iload_n rfl rfl ?_
      refine am_q_ireturn rfl rfl rfl ?_
      have hq : qLeast V W (nI k) = nI j := by rw [qLeast, if_pos (by rw [sIs_nI hk (by omega)]; exact decide_eq_true hst), ik_nI (by omega), ff_yes (by omega) hinv.2 c_38, if_pos (by omega)]
      rw [hq]
      exact ⟨_, rfl, fr_tr hinv.1 (fr_D hf2)⟩

theorem m_least0 (d : Nat) (s : Int32) (n : Nat) {V : sVal} {W : sWall} {μ : am_M2} (ν : am_N2) (hV : mVal μ V) (hO : vOk V) (hW : mWall μ 0 W) (hI : sI (vN V) (vP V) W.1 W.2.1) (ht : W.2.2 < 2 ^ 20) (hz : (am_ix s (vN V)).isSome = false) : ∃ (μ' : am_M2), am_run (d + 3) 256 [.ref 133, .int s] (am_hp n μ ν) = some (some (.int (qLeast V W s)), am_hp n μ' ν) ∧ fr μ μ' := by
  have h6 := hO.1.1
  have hP8 := hO.1.2.1
  have h8 := sI_8 hO hI
  have hpk := sI_p hI
  have hV0 := mVal_fr (fr_thr μ) hV
  have hW0 := mWall_fr (fr_thr μ) (by decide) hW
  have hq : qLeast V W s = -1 := by rw [qLeast, if_neg (by unfold sIs; rw [isN hz]; exact Bool.false_ne_true)]
  have key : ∃ r, am_run (d + 3) 256 [.ref 133, .int s] (am_hp n μ ν) = some r ∧ ∃ (μ' : am_M2), r = (some (.int (qLeast V W s)), am_hp n μ' ν) ∧ fr μ μ' := am_run_wE (k := 256) (d := d + 2) rfl rfl (Nat.le_of_ble_eq_true rfl) [some (.ref 133), some (.int s), none] rfl (by
    refine am_q_aload_n rfl rfl ?_
    refine am_q_iconst (v := nI 0) rfl rfl ?_
    refine am_q_pi rfl rfl rfl (Or.inl rfl) ?_
    refine am_q_iconst (v := nI 0) rfl rfl ?_
    refine am_q_istore_n [some _, some _, some _] rfl (Nat.le_of_ble_eq_true rfl) rfl ?_
    refine am_q_iload_n rfl rfl ?_
    refine am_q_bipush (v := nI 10) rfl rfl ?_
    refine am_q_igeN rfl (by omega) (by omega) (fun c_10 => absurd c_10 (by omega)) (fun c_10 => ?_)
    refine am_q_aload_n rfl rfl ?_
    refine am_q_iload_n rfl rfl ?_
    refine am_q_call rfl rfl (m_isSoul _ _ _ _ hV0 hO) rfl ?_
    refine am_q_if_eqB rfl (fun c_18 => ?_) (fun c_18 => by rw [hz] at c_18; cases c_18)
    refine am_q_iconst (v := -1) rfl rfl ?_
    refine am_q_ireturn rfl rfl rfl ?_
    rw [hq]
    exact ⟨_, rfl, fr_thr μ⟩)
  obtain ⟨r, h1, μ', h2, h3⟩ := key
  exact ⟨μ', by rw [h1, h2], h3⟩

theorem m_least1 (d : Nat) (k : Nat) (n : Nat) {V : sVal} {W : sWall} {μ : am_M2} (ν : am_N2) (hV : mVal μ V) (hO : vOk V) (hW : mWall μ 0 W) (hI : sI (vN V) (vP V) W.1 W.2.1) (ht : W.2.2 < 2 ^ 20) (hk : k < vN V) (hst : ¬ W.1 k = 2) : ∃ (μ' : am_M2), am_run (d + 3) 256 [.ref 133, .int (nI k)] (am_hp n μ ν) = some (some (.int (qLeast V W (nI k))), am_hp n μ' ν) ∧ fr μ μ' := by
  have h6 := hO.1.1
  have hP8 := hO.1.2.1
  have h8 := sI_8 hO hI
  have hpk := sI_p hI
  have hV0 := mVal_fr (fr_thr μ) hV
  have hW0 := mWall_fr (fr_thr μ) (by decide) hW
  have hq : qLeast V W (nI k) = -1 := by rw [qLeast, if_neg (by rw [sIs_nI hk (by omega), decide_eq_false hst]; exact Bool.false_ne_true)]
  have hix : am_ix (nI k) (vN V) = some k := am_ix_nI hk (by omega)
  have k4 := (hI k (by omega)).1
  have key : ∃ r, am_run (d + 3) 256 [.ref 133, .int (nI k)] (am_hp n μ ν) = some r ∧ ∃ (μ' : am_M2), r = (some (.int (qLeast V W (nI k))), am_hp n μ' ν) ∧ fr μ μ' := am_run_wE (k := 256) (d := d + 2) rfl rfl (Nat.le_of_ble_eq_true rfl) [some (.ref 133), some (.int (nI k)), none] rfl (by
    refine am_q_aload_n rfl rfl ?_
    refine am_q_iconst (v := nI 0) rfl rfl ?_
    refine am_q_pi rfl rfl rfl (Or.inl rfl) ?_
    refine am_q_iconst (v := nI 0) rfl rfl ?_
    refine am_q_istore_n [some _, some _, some _] rfl (Nat.le_of_ble_eq_true rfl) rfl ?_
    refine am_q_iload_n rfl rfl ?_
    refine am_q_bipush (v := nI 10) rfl rfl ?_
    refine am_q_igeN rfl (by omega) (by omega) (fun c_10 => absurd c_10 (by omega)) (fun c_10 => ?_)
    refine am_q_aload_n rfl rfl ?_
    refine am_q_iload_n rfl rfl ?_
    refine am_q_call rfl rfl (m_isSoul _ _ _ _ hV0 hO) rfl ?_
    refine am_q_if_eqB rfl (fun c_18 => by rw [hix] at c_18; cases c_18) (fun c_18 => ?_)
    refine am_q_aload_n rfl rfl ?_
    refine am_q_iconst (v := nI 0) rfl rfl ?_
    refine am_q_iload_n rfl rfl ?_
    refine am_q_call rfl rfl (m_isNowW _ n ν 0 (by decide) hW0 _ (by omega)) rfl ?_
    refine am_q_iconst (v := nI 2) rfl rfl ?_
    refine am_q_ineN rfl (by omega) (by omega) (fun c_28 => ?_) (fun c_28 => absurd c_28 hst)
    refine am_q_iconst (v := -1) rfl rfl ?_
    refine am_q_ireturn rfl rfl rfl ?_
    rw [hq]
    exact ⟨_, rfl, fr_thr μ⟩)
  obtain ⟨r, h1, μ', h2, h3⟩ := key
  exact ⟨μ', by rw [h1, h2], h3⟩

theorem m_least2 (d : Nat) (k : Nat) (n : Nat) {V : sVal} {W : sWall} {μ : am_M2} (ν : am_N2) (hV : mVal μ V) (hO : vOk V) (hW : mWall μ 0 W) (hI : sI (vN V) (vP V) W.1 W.2.1) (ht : W.2.2 < 2 ^ 20) (hk : k < vN V) (hst : W.1 k = 2) : ∃ (μ' : am_M2), am_run (d + 5) 256 [.ref 133, .int (nI k)] (am_hp n μ ν) = some (some (.int (qLeast V W (nI k))), am_hp n μ' ν) ∧ fr μ μ' := by
  have key : ∃ r, am_run (d + 5) 256 [.ref 133, .int (nI k)] (am_hp n μ ν) = some r ∧ ∃ (μ' : am_M2), r = (some (.int (qLeast V W (nI k))), am_hp n μ' ν) ∧ fr μ μ' := am_run_wE (k := 256) (d := d + 4) rfl rfl (Nat.le_of_ble_eq_true rfl) [some (.ref 133), some (.int (nI k)), none] rfl (by
    refine am_q_aload_n rfl rfl ?_
    refine am_q_iconst (v := nI 0) rfl rfl ?_
    refine am_q_pi rfl rfl rfl (Or.inl rfl) ?_
    refine am_q_iconst (v := nI 0) rfl rfl ?_
    refine am_q_istore_n [some _, some _, some _] rfl (Nat.le_of_ble_eq_true rfl) rfl ?_
    exact m_leastL d k n ν hV hO hW hI ht hk hst 10 0 _ (by omega) ⟨fr_thr μ, fun i hi => by omega⟩)
  obtain ⟨r, h1, μ', h2, h3⟩ := key
  exact ⟨μ', by rw [h1, h2], h3⟩

theorem m_least (d : Nat) (s : Int32) (n : Nat) {V : sVal} {W : sWall} {μ : am_M2} (ν : am_N2) (hV : mVal μ V) (hO : vOk V) (hW : mWall μ 0 W) (hI : sI (vN V) (vP V) W.1 W.2.1) (ht : W.2.2 < 2 ^ 20) : ∃ μ', am_run (d + 5) 256 [.ref 133, .int s] (am_hp n μ ν) = some (some (.int (qLeast V W s)), am_hp n μ' ν) ∧ fr μ μ' := by
  have h6 := hO.1.1
  cases hs : (am_ix s (vN V)).isSome with
  | false => exact m_least0 (d + 2) s n ν hV hO hW hI ht hs
  | true =>
    obtain ⟨k, hk, rfl, -⟩ := isI hs (by omega)
    by_cases hst : W.1 k = 2
    · exact m_least2 d k n ν hV hO hW hI ht hk hst
    · exact m_least1 (d + 2) k n ν hV hO hW hI ht hk hst