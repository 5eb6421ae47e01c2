theorem nI_maxsub {a b : Nat} (ha : a < 2 ^ 30) (hb : b < 2 ^ 30) : (if nI a - nI b < nI 0 then nI 0 else nI a - nI b) = nI (a - b) := by
  by_cases h : a < b
  · rw [if_pos (show nI a - nI b < nI 0 from pk_sneg hb h), show a - b = 0 by omega]
  · rw [pk_sub (by omega), if_neg (show ¬ nI (a - b) < nI 0 from nI_pos (by omega))]
theorem nI_max {a b : Nat} (ha : a < 2 ^ 31) (hb : b < 2 ^ 31) : (if nI a < nI b then nI b else nI a) = nI (if a < b then b else a) := by
  by_cases h : a < b
  · rw [if_pos ((nI_ltI ha hb).mpr h), if_pos h]
  · rw [if_neg (fun q => h ((nI_ltI ha hb).mp q)), if_neg h]
/-- StoneSecrets.blurts(I)I -/
theorem x_blurts (d : Nat) (s : Int32) (n : Nat) {V : sVal} {W : sWall} {μ : am_M2} (ν : am_N2) (hV : xVal μ V) (hO : vOk V) (hW : xWall μ 35 W) (hI : sI (vN V) (vP V) W.1 W.2.1) (ht : W.2.2 < 2 ^ 20) : am_run (d + 3) 109 [.ref 2, .int s] (am_hp n μ ν) = some (some (.int (qBlurts V W s)), am_hp n μ ν) := by
  have h6 := hO.1.1
  have hP8 := hO.1.2.1
  have h8 := sI_8 hO hI
  refine am_r109 (d := d + 2) (Nat.le_of_ble_eq_true rfl) [some (.ref 2), some (.int s), none] rfl ?_
  refine am_q_aload_n rfl rfl ?_
  refine am_q_gr rfl rfl rfl ?_
  refine am_q_iload_n rfl rfl ?_
  refine am_q_iconst (v := nI 0) rfl rfl ?_
  refine am_q_call rfl rfl (s_is35 _ _ _ (by omega) _ _ hV.1 hW hI) rfl ?_
  refine am_q_if_eqB rfl (fun c_9 => ?_) (fun c_9 => ?_)
  · refine am_q_iconst (v := -1) rfl rfl ?_
    refine am_q_ireturn rfl rfl rfl ?_
    rw [qBlurts, if_neg (by simp [c_9])]
  · obtain ⟨k, hk, rfl, hst, -⟩ := isK c_9 h6
    have hD := (hO.2.1 k hk).2.2.1
    refine am_q_aload_n rfl rfl ?_
    refine am_q_gr rfl rfl rfl ?_
    refine am_q_iload_n rfl rfl ?_
    refine am_q_call rfl rfl (s_canLeak _ _ _ (by omega) _ hV hO) rfl ?_
    refine am_q_if_neB rfl (fun c_20 => ?_) (fun c_20 => ?_)
    · refine am_q_aload_n rfl rfl ?_
      refine am_q_gr rfl rfl rfl ?_
      refine am_q_gr rfl rfl rfl ?_
      refine am_q_iload_n rfl rfl ?_
      refine am_q_iald rfl rfl (by first | exact am_ix_nI (by omega) (by omega) | rfl) (hV.2.2.2.1 _ (by omega)).2.2.1 ?_
      refine am_q_aload_n rfl rfl ?_
      refine am_q_gr rfl rfl rfl ?_
      refine am_q_gi rfl rfl rfl hW.2.2 ?_
      refine am_q_isub rfl rfl ?_
      refine am_q_iconst (v := nI 0) rfl rfl ?_
      refine am_q_call rfl rfl (s_max _ _ _ _) rfl ?_
      rw [nI_maxsub (by omega) (by omega)]
      refine am_q_iconst (v := nI 1) rfl rfl ?_
      refine am_q_iadd rfl (nI_add _ _) ?_
      refine am_q_istore_n [some _, some _, some _] rfl (Nat.le_of_ble_eq_true rfl) rfl ?_
      refine am_q_iload_n rfl rfl ?_
      refine am_q_bipush (v := nI 60) rfl rfl ?_
      refine am_q_igtN rfl (by omega) (by omega) (fun c_52 => ?_) (fun c_52 => ?_)
      · refine am_q_iconst (v := -1) rfl rfl ?_
        refine am_q_ireturn rfl rfl rfl ?_
        rw [qBlurts, if_pos ⟨c_9, by rw [ik_nI (by omega)]; exact c_20⟩, if_neg (by rw [ik_nI (by omega)]; omega)]
      · refine am_q_iload_n rfl rfl ?_
        refine am_q_goto rfl ?_
        refine am_q_ireturn rfl rfl rfl ?_
        rw [qBlurts, if_pos ⟨c_9, by rw [ik_nI (by omega)]; exact c_20⟩, if_pos (by rw [ik_nI (by omega)]; omega), ik_nI (by omega)]
    · refine am_q_iconst (v := -1) rfl rfl ?_
      refine am_q_ireturn rfl rfl rfl ?_
      rw [qBlurts, if_neg (by rw [ik_nI (by omega)]; simp [c_20])]

theorem sn_nb {V : sVal} {pl : Nat → Option Nat} (h8 : sPl8 pl) (q : Option Nat) (hq : ∀ p, q = some p → p < 8) : sn_bc (sBs q &&& sTk pl) = oNb pl q := by
  cases q with
  | none => exact (show sn_bc (0 &&& sTk pl) = 0 by rw [Nat.zero_and]; rfl)
  | some p => exact sNb_bc _ (sTk_lt h8) p (hq p rfl)
theorem ff_no {p : Nat → Bool} {n : Nat} (h : ∀ k, k < n → p k = false) : ¬ fa_first p n < n := fun q => by
  have := fa_first_yes p n q
  rw [h _ q] at this; cases this
theorem ff_yes {p : Nat → Bool} {n k : Nat} (hk : k < n) (h : ∀ i, i < k → p i = false) (hp : p k = true) : fa_first p n = k := by
  have h1 : ¬ k < fa_first p n := fun q => by rw [fa_first_no p n k q] at hp; cases hp
  have h2 : fa_first p n < n := by omega
  by_cases h3 : fa_first p n < k
  · have := fa_first_yes p n h2
    rw [h _ h3] at this; cases this
  · omega
theorem sTk_and {pl : Nat → Option Nat} (h8 : sPl8 pl) (a : Nat) : a &&& sTk pl < 256 := Nat.lt_of_le_of_lt Nat.and_le_right (sTk_lt h8)
theorem x_leastL (d k : Nat) (n : Nat) {V : sVal} {W : sWall} {μ : am_M2} (ν : am_N2) (hV : xVal μ V) (hO : vOk V) (hW : xWall μ 35 W) (hI : sI (vN V) (vP V) W.1 W.2.1) (ht : W.2.2 < 2 ^ 20) (hk : k < vN V) (hst : W.1 k = 2) : ∀ (m j : Nat) (g : Nat → Int32), j + m = 10 → (∀ i, i < j → sDrop V W k i = false) → am_w (d + 3) (Option.some FieldType.int) am_g114 43 [some (.ref 2), some (.int (nI k)), some (.int (nI (sn_bc (sBs (W.2.1 k) &&& sTk W.2.1)))), some (.int (nI j))] [] (am_hp n (am_rw μ 15 g) ν) (fun y => ∃ (μ' : am_M2), y = (some (.int (qLeast V W (nI k))), am_hp n μ' ν) ∧ fr μ μ') := by
  intro m
  induction m with
  | zero =>
    intro j g hj hinv
    have h6 := hO.1.1
    have hP8 := hO.1.2.1
    have h8 := sI_8 hO hI
    refine am_q_iload_n rfl rfl ?_
    refine am_q_bipush (v := nI 9) rfl rfl ?_
    refine am_q_igtN rfl (by omega) (by omega) (fun c_46 => ?_) (fun c_46 => absurd c_46 (by omega))
    refine am_q_iconst (v := -1) rfl rfl ?_
    refine am_q_ireturn rfl rfl rfl ?_
    refine ⟨_, ?_, fr_15 _ g⟩
    rw [qLeast, if_pos (by rw [sIs_nI hk (by omega)]; exact decide_eq_true hst), ik_nI (by omega), if_neg (ff_no (fun i hi => hinv i (by omega)))]
  | succ m ih =>
    intro j g hj hinv
    have h6 := hO.1.1
    have hP8 := hO.1.2.1
    have h8 := sI_8 hO hI
    rw [sn_nb (V := V) h8 _ (h8 k (by omega))]
    refine am_q_iload_n rfl rfl ?_
    refine am_q_bipush (v := nI 9) rfl rfl ?_
    refine am_q_igtN rfl (by omega) (by omega) (fun c_46 => absurd c_46 (by omega)) (fun c_46 => ?_)
    refine am_q_aload_n rfl rfl ?_
    refine am_q_gr rfl rfl rfl ?_
    refine am_q_iload_n rfl rfl ?_
    refine am_q_iload_n rfl rfl ?_
    refine am_q_iload_n rfl rfl ?_
    refine am_q_aload_n rfl rfl ?_
    refine am_q_gr rfl rfl rfl ?_
    refine am_q_gi rfl rfl rfl hW.2.2 ?_
    obtain ⟨g2, hd⟩ := s_drops d n k (by omega) (nI (vW V k)) (nI j) (nI (oNb W.2.1 (W.2.1 k))) (nI W.2.2) (μ := am_rw μ 15 g) ν (hV.2.2.2.1 _ hk).2.2.2.1 (hV.2.2.2.2.2 (by omega)) hO.1.2.2.2
    refine am_q_call rfl rfl (hd) rfl ?_
    rw [am_rw_rw]
    refine am_q_if_eqB rfl (fun c_66 => ?_) (fun c_66 => ?_)
    · refine am_q_iinc [some _, some _, some _, some _] rfl (c := nI 1) rfl rfl (Nat.le_of_ble_eq_true rfl) (nI_add _ _) rfl ?_
      refine am_q_goto rfl ?_
      rw [← sn_nb (V := V) h8 _ (h8 k (by omega))]
      exact ih (j + 1) g2 (by omega) (fun i hi => by by_cases z : i < j; exact hinv i z; rw [show i = j by omega]; exact c_66)
    · refine am_q_iload_n rfl rfl ?_
      refine am_q_ireturn rfl rfl rfl ?_
      refine ⟨_, ?_, fr_15 _ g2⟩
      rw [qLeast, if_pos (by rw [sIs_nI hk (by omega)]; exact decide_eq_true hst), ik_nI (by omega), ff_yes (k := j) (by omega) hinv c_66, if_pos (by omega)]

/-- StoneSecrets.least(I)I -/
theorem x_least (d : Nat) (s : Int32) (n : Nat) {V : sVal} {W : sWall} {μ : am_M2} (ν : am_N2) (hV : xVal μ V) (hO : vOk V) (hW : xWall μ 35 W) (hI : sI (vN V) (vP V) W.1 W.2.1) (ht : W.2.2 < 2 ^ 20) : ∃ (μ' : am_M2), am_run (d + 6) 114 [.ref 2, .int s] (am_hp n μ ν) = some (some (.int (qLeast V W s)), am_hp n μ' ν) ∧ fr μ μ' := by
  have h6 := hO.1.1
  have hP8 := hO.1.2.1
  have h8 := sI_8 hO hI
  have key : ∃ r, am_run (d + 6) 114 [.ref 2, .int s] (am_hp n μ ν) = some r ∧ ∃ (μ' : am_M2), r = (some (.int (qLeast V W s)), am_hp n μ' ν) ∧ fr μ μ' := am_run_wE (k := 114) (d := d + 5) rfl rfl (Nat.le_of_ble_eq_true rfl) [some (.ref 2), some (.int s), none, none] rfl (by
    refine am_q_aload_n rfl rfl ?_
    refine am_q_gr rfl rfl rfl ?_
    refine am_q_iload_n rfl rfl ?_
    refine am_q_iconst (v := nI 2) rfl rfl ?_
    refine am_q_call rfl rfl (s_is35 _ _ _ (by omega) _ _ hV.1 hW hI) rfl ?_
    refine am_q_if_neB rfl (fun c_9 => ?_) (fun c_9 => ?_)
    · obtain ⟨k, hk, rfl, hst, -⟩ := isK c_9 h6
      refine am_q_aload_n rfl rfl ?_
      refine am_q_gr rfl rfl rfl ?_
      refine am_q_gr rfl rfl rfl ?_
      refine am_q_iload_n rfl rfl ?_
      refine am_q_iald rfl rfl (by first | exact am_ix_nI (by omega) (by omega) | rfl) (hW.2.1 _ (by omega)) ?_
      refine am_q_call rfl rfl (s_besideSpot _ _ _) rfl ?_
      rw [sn_bsq (h8 k (by omega))]
      refine am_q_aload_n rfl rfl ?_
      refine am_q_gr rfl rfl rfl ?_
      refine am_q_gr rfl rfl rfl ?_
      refine am_q_call rfl rfl (s_taken _ n 37 (fun s => sn_sp (W.2.1 s)) _ ν _ rfl (fun k hk => (hW.2.1 k hk).trans (sn_spot_eq _))) rfl ?_
      refine am_q_iand rfl (sn_and _ _) ?_
      refine am_q_call rfl rfl (s_bitCount _ _ (by have := sTk_and h8 (sBs (W.2.1 k)); exact Nat.lt_trans this (by decide)) _) rfl ?_
      refine am_q_istore_n [some _, some _, some _, none] rfl (Nat.le_of_ble_eq_true rfl) rfl ?_
      refine am_q_iconst (v := nI 0) rfl rfl ?_
      refine am_q_istore_n [some _, some _, some _, some _] rfl (Nat.le_of_ble_eq_true rfl) rfl ?_
      have e := x_leastL (d + 2) k n ν hV hO hW hI ht hk hst 10 0 (μ 15) (by omega) (fun i hi => by omega)
      rw [am_rw_self] at e
      exact e
    · refine am_q_iconst (v := -1) rfl rfl ?_
      refine am_q_ireturn rfl rfl rfl ?_
      exact ⟨_, by rw [qLeast, if_neg (by simp [c_9])], fr_rf _⟩)
  obtain ⟨r, h1, μ', h2, h3⟩ := key
  exact ⟨μ', by rw [h1, h2], h3⟩

theorem sn_spot_0 {q : Option Nat} (hq : ∀ p, q = some p → p < 8) (h : sn_spot q = 0) : q = none := by
  cases q with
  | none => rfl
  | some p => exact absurd h (sn_po p (by have := hq p rfl; omega)).1
theorem sn_spot_n0 {q : Option Nat} (h : ¬ sn_spot q = 0) : ∃ p, q = some p := by
  cases q with
  | none => exact absurd rfl h
  | some p => exact ⟨p, rfl⟩
theorem x_leanL (d : Nat) (a : Nat) {pl : Nat → Option Nat} (n : Nat) {V : sVal} {μ : am_M2} (ν : am_N2) (hV : xVal μ V) (hO : vOk V) {f : Nat → Option Nat} (hS : am_S0 n a = some (.inl (.int, true, 6, f))) (hg : ∀ k, k < 6 → μ a k = sn_spot (pl k)) (h8 : sPl8 pl) : ∀ (m j : Nat) , j + m = vN V → am_w (d + 2) (Option.some FieldType.int) am_g133 4 [some (.ref 5), some (.ref a), some (.int (lpF (fun s x => match pl s with | none => x | some p => x + nI (vW V s) * (nI (2 * p + 1) - nI (vP V))) (nI 0) j)), some (.int (nI j))] [] (am_hp n μ ν) (fun y => y = (some (.int (qLean V pl)), am_hp n μ ν)) := by
  intro m
  induction m with
  | zero =>
    intro j  hj
    have h6 := hO.1.1
    refine am_q_iload_n rfl rfl ?_
    refine am_q_aload_n rfl rfl ?_
    refine am_q_gi rfl rfl rfl hV.1.1 ?_
    refine am_q_igeN rfl (by omega) (by omega) (fun c_9 => ?_) (fun c_9 => absurd c_9 (by omega))
    refine am_q_iload_n rfl rfl ?_
    refine am_q_call rfl rfl (s_abs _ _ _) rfl ?_
    refine am_q_ireturn rfl rfl rfl ?_
    rw [show j = vN V by omega]; rfl
  | succ m ih =>
    intro j  hj
    have h6 := hO.1.1
    have e := ih (j + 1) (by omega)
    rw [lpF_s] at e
    refine am_q_iload_n rfl rfl ?_
    refine am_q_aload_n rfl rfl ?_
    refine am_q_gi rfl rfl rfl hV.1.1 ?_
    refine am_q_igeN rfl (by omega) (by omega) (fun c_9 => absurd c_9 (by omega)) (fun c_9 => ?_)
    refine am_q_aload_n rfl rfl ?_
    refine am_q_iload_n rfl rfl ?_
    refine am_q_iald rfl hS (by first | exact am_ix_nI (by omega) (by omega) | rfl) (hg _ (by omega)) ?_
    refine am_q_if_eq rfl (fun c_15 => ?_) (fun c_15 => ?_)
    · rw [sn_spot_0 (h8 j (by omega)) c_15] at e
      refine am_q_iinc [some _, some _, some _, some _] rfl (c := nI 1) rfl rfl (Nat.le_of_ble_eq_true rfl) (nI_add _ _) rfl ?_
      refine am_q_goto rfl ?_
      exact e
    · obtain ⟨p, hp⟩ := sn_spot_n0 c_15
      have hp8 := h8 j (by omega) p hp
      rw [hp] at e
      refine am_q_iload_n rfl rfl ?_
      refine am_q_aload_n rfl rfl ?_
      refine am_q_gr rfl rfl rfl ?_
      refine am_q_iload_n rfl rfl ?_
      refine am_q_iald rfl rfl (by first | exact am_ix_nI (by omega) (by omega) | rfl) (hV.2.2.2.1 _ (by omega)).2.2.2.1 ?_
      refine am_q_iconst (v := nI 2) rfl rfl ?_
      refine am_q_aload_n rfl rfl ?_
      refine am_q_iload_n rfl rfl ?_
      refine am_q_iald rfl hS (by first | exact am_ix_nI (by omega) (by omega) | rfl) ((hg _ (by omega)).trans (show _ = nI (2 ^ p) by rw [hp]; rfl)) ?_
      refine am_q_call rfl rfl (s_placeOf1 _ p (by omega) _) rfl ?_
      refine am_q_imul rfl (pk_mul _ _) ?_
      refine am_q_iconst (v := nI 1) rfl rfl ?_
      refine am_q_iadd rfl (nI_add _ _) ?_
      refine am_q_aload_n rfl rfl ?_
      refine am_q_gi rfl rfl rfl hV.1.2.2.1 ?_
      refine am_q_isub rfl rfl ?_
      refine am_q_imul rfl rfl ?_
      refine am_q_iadd rfl rfl ?_
      refine am_q_istore_n [some _, some _, some _, some _] rfl (Nat.le_of_ble_eq_true rfl) rfl ?_
      refine am_q_iinc [some _, some _, some _, some _] rfl (c := nI 1) rfl rfl (Nat.le_of_ble_eq_true rfl) (nI_add _ _) rfl ?_
      refine am_q_goto rfl ?_
      exact e

/-- StoneSecrets$Valley.leanOf([I)I -/
theorem x_leanOf (d : Nat) (a : Nat) {pl : Nat → Option Nat} (n : Nat) {V : sVal} {μ : am_M2} (ν : am_N2) (hV : xVal μ V) (hO : vOk V) {f : Nat → Option Nat} (hS : am_S0 n a = some (.inl (.int, true, 6, f))) (hg : ∀ k, k < 6 → μ a k = sn_spot (pl k)) (h8 : sPl8 pl) : am_run (d + 3) 133 [.ref 5, .ref a] (am_hp n μ ν) = some (some (.int (qLean V pl)), am_hp n μ ν) := by
  refine am_r133 (d := d + 2) (Nat.le_of_ble_eq_true rfl) [some (.ref 5), some (.ref a), none, none] rfl ?_
  refine am_q_iconst (v := nI 0) rfl rfl ?_
  refine am_q_istore_n [some _, some _, some _, none] rfl (Nat.le_of_ble_eq_true rfl) rfl ?_
  refine am_q_iconst (v := nI 0) rfl rfl ?_
  refine am_q_istore_n [some _, some _, some _, some _] rfl (Nat.le_of_ble_eq_true rfl) rfl ?_
  exact x_leanL d a n ν hV hO hS hg h8 (vN V) 0 (by omega)

/-- StoneSecrets.lean()I -/
theorem x_lean (d : Nat) (n : Nat) {V : sVal} {W : sWall} {μ : am_M2} (ν : am_N2) (hV : xVal μ V) (hO : vOk V) (hW : xWall μ 35 W) (hI : sI (vN V) (vP V) W.1 W.2.1) (ht : W.2.2 < 2 ^ 20) : am_run (d + 4) 132 [.ref 2] (am_hp n μ ν) = some (some (.int (qLean V W.2.1)), am_hp n μ ν) := by
  have h6 := hO.1.1
  have hP8 := hO.1.2.1
  have h8 := sI_8 hO hI
  refine am_r132 (d := d + 3) (Nat.le_of_ble_eq_true rfl) [some (.ref 2)] rfl ?_
  refine am_q_aload_n rfl rfl ?_
  refine am_q_gr rfl rfl rfl ?_
  refine am_q_aload_n rfl rfl ?_
  refine am_q_gr rfl rfl rfl ?_
  refine am_q_gr rfl rfl rfl ?_
  refine am_q_call rfl rfl (x_leanOf _ 37 _ ν hV hO rfl hW.2.1 h8) rfl ?_
  refine am_q_ireturn rfl rfl rfl ?_
  rfl

theorem sLoad_le {V : sVal} {W : sWall} (hO : vOk V) : ∀ n, n ≤ vN V → sLoad V W n ≤ 41 * n
  | 0, _ => Nat.le_refl _
  | n + 1, h => by
    have := sLoad_le (W := W) hO n (by omega)
    have h2 := vW_le hO (s := n) (by omega)
    rw [sLoad, lpF_s]
    rw [sLoad] at this
    split <;> omega
theorem x_loadL (d : Nat) (n : Nat) {V : sVal} {W : sWall} {μ : am_M2} (ν : am_N2) (hV : xVal μ V) (hO : vOk V) (hW : xWall μ 35 W) (hI : sI (vN V) (vP V) W.1 W.2.1) (ht : W.2.2 < 2 ^ 20) : ∀ (m j : Nat) , j + m = vN V → am_w (d + 2) (Option.some FieldType.int) am_g147 4 [some (.ref 2), some (.int (nI (sLoad V W j))), some (.int (nI j))] [] (am_hp n μ ν) (fun y => y = (some (.int (nI (sLoad V W (vN V)))), am_hp n μ ν)) := by
  intro m
  induction m with
  | zero =>
    intro j  hj
    have h6 := hO.1.1
    have hP8 := hO.1.2.1
    have h8 := sI_8 hO hI
    refine am_q_iload_n rfl rfl ?_
    refine am_q_aload_n rfl rfl ?_
    refine am_q_gr rfl rfl rfl ?_
    refine am_q_gi rfl rfl rfl hV.1.1 ?_
    refine am_q_igeN rfl (by omega) (by omega) (fun c_12 => ?_) (fun c_12 => absurd c_12 (by omega))
    refine am_q_iload_n rfl rfl ?_
    refine am_q_ireturn rfl rfl rfl ?_
    rw [show j = vN V by omega]
  | succ m ih =>
    intro j  hj
    have h6 := hO.1.1
    have hP8 := hO.1.2.1
    have h8 := sI_8 hO hI
    have e := ih (j + 1) (by omega)
    rw [sLoad, lpF_s] at e
    refine am_q_iload_n rfl rfl ?_
    refine am_q_aload_n rfl rfl ?_
    refine am_q_gr rfl rfl rfl ?_
    refine am_q_gi rfl rfl rfl hV.1.1 ?_
    refine am_q_igeN rfl (by omega) (by omega) (fun c_12 => absurd c_12 (by omega)) (fun c_12 => ?_)
    refine am_q_aload_n rfl rfl ?_
    refine am_q_gr rfl rfl rfl ?_
    refine am_q_iload_n rfl rfl ?_
    refine am_q_iconst (v := nI 2) rfl rfl ?_
    refine am_q_call rfl rfl (s_is35 _ _ _ (by omega) _ _ hV.1 hW hI) rfl ?_
    rw [sIs_nI (show j < vN V by omega) (by omega)]
    refine am_q_if_eqB rfl (fun c_24 => ?_) (fun c_24 => ?_)
    · rw [if_neg (of_decide_eq_false c_24)] at e
      refine am_q_iinc [some _, some _, some _] rfl (c := nI 1) rfl rfl (Nat.le_of_ble_eq_true rfl) (nI_add _ _) rfl ?_
      refine am_q_goto rfl ?_
      exact e
    · rw [if_pos (of_decide_eq_true c_24)] at e
      refine am_q_iload_n rfl rfl ?_
      refine am_q_aload_n rfl rfl ?_
      refine am_q_gr rfl rfl rfl ?_
      refine am_q_gr rfl rfl rfl ?_
      refine am_q_iload_n rfl rfl ?_
      refine am_q_iald rfl rfl (by first | exact am_ix_nI (by omega) (by omega) | rfl) (hV.2.2.2.1 _ (by omega)).2.2.2.1 ?_
      refine am_q_iadd rfl (nI_add _ _) ?_
      refine am_q_istore_n [some _, some _, some _] rfl (Nat.le_of_ble_eq_true rfl) rfl ?_
      refine am_q_iinc [some _, some _, some _] rfl (c := nI 1) rfl rfl (Nat.le_of_ble_eq_true rfl) (nI_add _ _) rfl ?_
      refine am_q_goto rfl ?_
      exact e

/-- StoneSecrets.load()I -/
theorem x_load (d : Nat) (n : Nat) {V : sVal} {W : sWall} {μ : am_M2} (ν : am_N2) (hV : xVal μ V) (hO : vOk V) (hW : xWall μ 35 W) (hI : sI (vN V) (vP V) W.1 W.2.1) (ht : W.2.2 < 2 ^ 20) : am_run (d + 3) 147 [.ref 2] (am_hp n μ ν) = some (some (.int (nI (sLoad V W (vN V)))), am_hp n μ ν) := by
  refine am_r147 (d := d + 2) (Nat.le_of_ble_eq_true rfl) [some (.ref 2), none, none] rfl ?_
  refine am_q_iconst (v := nI 0) rfl rfl ?_
  refine am_q_istore_n [some _, some _, none] rfl (Nat.le_of_ble_eq_true rfl) rfl ?_
  refine am_q_iconst (v := nI 0) rfl rfl ?_
  refine am_q_istore_n [some _, some _, some _] rfl (Nat.le_of_ble_eq_true rfl) rfl ?_
  exact x_loadL d n ν hV hO hW hI ht (vN V) 0 (by omega)
