/-- StoneSecretsModel.ways()I -/
theorem m_ways (d : Nat) (n : Nat) {V : sVal} {W : sWall} {U : List sWall} {K : Nat → Option (sWall × sSeen)} {S : sSeen} {Y : sYear} {μ : am_M2} (ν : am_N2) (hR : mR μ V W U K S Y) (hO : vOk V) (hI : sI (vN V) (vP V) W.1 W.2.1) (ht : W.2.2 < 2 ^ 20) (hN : nOk V S) : ∃ (μ' : am_M2), am_run (d + 16) 257 [.ref 133] (am_hp n μ ν) = some (some (.int (nI (waysOf V W).length)), am_hp n μ' ν) ∧ fr μ μ' := by
  have h6 := hO.1.1
  have hP8 := hO.1.2.1
  have hR0 := mR_fr (fr_thr μ) hR
  have key : ∃ r, am_run (d + 16) 257 [.ref 133] (am_hp n μ ν) = some r ∧ ∃ (μ' : am_M2), r = (some (.int (nI (waysOf V W).length)), am_hp n μ' ν) ∧ fr μ μ' := am_run_wE (k := 257) (d := d + 15) rfl rfl (Nat.le_of_ble_eq_true rfl) [some (.ref 133)] rfl (by
    refine am_q_aload_n rfl rfl ?_
    refine am_q_iconst (v := nI 0) rfl rfl ?_
    refine am_q_pi rfl rfl rfl (Or.inl rfl) ?_
    refine am_q_aload_n rfl rfl ?_
    refine am_q_iconst (v := -1) rfl rfl ?_
    obtain ⟨μ2, hc2, hA2, hf2⟩ := m_gathers d n ν hR0 hO hI ht hN none (fun w hw => (by cases hw))
    refine am_q_call rfl rfl ((show am_run (d + 15) 258 [.ref 133, .int (-1)] _ = _ from hc2)) rfl ?_
    refine am_q_aload_n rfl rfl ?_
    refine am_q_gi rfl rfl rfl hA2.1.1 ?_
    refine am_q_ireturn rfl rfl rfl ?_
    exact ⟨_, rfl, fr_tr (fr_thr μ) hf2⟩)
  obtain ⟨r, h1, μ', h2, h3⟩ := key
  exact ⟨μ', by rw [h1, h2], h3⟩

/-- StoneSecretsModel.fit()I -/
theorem m_fit (d : Nat) (n : Nat) {V : sVal} {W : sWall} {U : List sWall} {K : Nat → Option (sWall × sSeen)} {S : sSeen} {Y : sYear} {μ : am_M2} (ν : am_N2) (hR : mR μ V W U K S Y) (hO : vOk V) (hI : sI (vN V) (vP V) W.1 W.2.1) (ht : W.2.2 < 2 ^ 20) (hN : nOk V S) : ∃ (μ' : am_M2), am_run (d + 16) 270 [.ref 133] (am_hp n μ ν) = some (some (.int (nI (ftF V S (waysOf V W)))), am_hp n μ' ν) ∧ fr μ μ' := by
  have h6 := hO.1.1
  have hP8 := hO.1.2.1
  have hR0 := mR_fr (fr_thr μ) hR
  have key : ∃ r, am_run (d + 16) 270 [.ref 133] (am_hp n μ ν) = some r ∧ ∃ (μ' : am_M2), r = (some (.int (nI (ftF V S (waysOf V W)))), am_hp n μ' ν) ∧ fr μ μ' := am_run_wE (k := 270) (d := d + 15) rfl rfl (Nat.le_of_ble_eq_true rfl) [some (.ref 133)] rfl (by
    refine am_q_aload_n rfl rfl ?_
    refine am_q_iconst (v := nI 0) rfl rfl ?_
    refine am_q_pi rfl rfl rfl (Or.inl rfl) ?_
    refine am_q_aload_n rfl rfl ?_
    refine am_q_iconst (v := -1) rfl rfl ?_
    obtain ⟨μ2, hc2, hA2, hf2⟩ := m_gathers d n ν hR0 hO hI ht hN none (fun w hw => (by cases hw))
    refine am_q_call rfl rfl ((show am_run (d + 15) 258 [.ref 133, .int (-1)] _ = _ from hc2)) rfl ?_
    refine am_q_aload_n rfl rfl ?_
    refine am_q_gi rfl rfl rfl hA2.2.2.2.1.1 ?_
    refine am_q_ireturn rfl rfl rfl ?_
    exact ⟨_, rfl, fr_tr (fr_thr μ) hf2⟩)
  obtain ⟨r, h1, μ', h2, h3⟩ := key
  exact ⟨μ', by rw [h1, h2], h3⟩

/-- StoneSecretsModel.even(I)I -/
theorem m_even (d : Nat) (x : Int32) (n : Nat) {V : sVal} {W : sWall} {U : List sWall} {K : Nat → Option (sWall × sSeen)} {S : sSeen} {Y : sYear} {μ : am_M2} (ν : am_N2) (hR : mR μ V W U K S Y) (hO : vOk V) (hI : sI (vN V) (vP V) W.1 W.2.1) (ht : W.2.2 < 2 ^ 20) (hN : nOk V S) : ∃ (μ' : am_M2), am_run (d + 16) 269 [.ref 133, .int x] (am_hp n μ ν) = some (some (.int (qEven V W x)), am_hp n μ' ν) ∧ fr μ μ' := by
  have h6 := hO.1.1
  have hP8 := hO.1.2.1
  have hR0 := mR_fr (fr_thr μ) hR
  have key : ∃ r, am_run (d + 16) 269 [.ref 133, .int x] (am_hp n μ ν) = some r ∧ ∃ (μ' : am_M2), r = (some (.int (qEven V W x)), am_hp n μ' ν) ∧ fr μ μ' := am_run_wE (k := 269) (d := d + 15) rfl rfl (Nat.le_of_ble_eq_true rfl) [some (.ref 133), some (.int x)] rfl (by
    refine am_q_aload_n rfl rfl ?_
    refine am_q_iconst (v := nI 0) rfl rfl ?_
    refine am_q_pi rfl rfl rfl (Or.inl rfl) ?_
    refine am_q_aload_n rfl rfl ?_
    refine am_q_iconst (v := -1) rfl rfl ?_
    obtain ⟨μ2, hc2, hA2, hf2⟩ := m_gathers d n ν hR0 hO hI ht hN none (fun w hw => (by cases hw))
    refine am_q_call rfl rfl ((show am_run (d + 15) 258 [.ref 133, .int (-1)] _ = _ from hc2)) rfl ?_
    refine am_q_iload_n rfl rfl ?_
    refine am_q_if_ne rfl (fun c_11 => ?_) (fun c_11 => ?_)
    · refine am_q_iload_n rfl rfl ?_
      refine am_q_iconst (v := nI 1) rfl rfl ?_
      refine am_q_icmp_ne rfl (fun c_23 => ?_) (fun c_23 => ?_)
      · refine am_q_iconst (v := -1) rfl rfl ?_
        refine am_q_ireturn rfl rfl rfl ?_
        have hx : rIn x 0 1 = false := by
          cases hr : rIn x 0 1 with
          | false => rfl
          | true =>
            obtain ⟨k, -, h1, rfl⟩ := rIn_k hr (by decide) (by decide)
            rcases (show k = 0 ∨ k = 1 by omega) with rfl | rfl
            · exact absurd rfl c_11
            · exact absurd rfl c_23
        rw [qEven, if_neg (by rw [hx]; exact Bool.false_ne_true)]
        exact ⟨_, rfl, fr_tr (fr_thr μ) hf2⟩
      · refine am_q_aload_n rfl rfl ?_
        refine am_q_gi rfl rfl rfl hA2.2.2.1.2 ?_
        refine am_q_goto rfl ?_
        refine am_q_ireturn rfl rfl rfl ?_
        rw [qEven, if_pos (by rw [c_23]; decide), if_neg (show ¬ x = nI 0 from c_11)]
        exact ⟨_, rfl, fr_tr (fr_thr μ) hf2⟩
    · refine am_q_aload_n rfl rfl ?_
      refine am_q_gi rfl rfl rfl hA2.2.2.1.1 ?_
      refine am_q_goto rfl ?_
      refine am_q_ireturn rfl rfl rfl ?_
      rw [qEven, if_pos (by rw [c_11]; decide), if_pos (by rw [c_11]; rfl)]
      exact ⟨_, rfl, fr_tr (fr_thr μ) hf2⟩)
  obtain ⟨r, h1, μ', h2, h3⟩ := key
  exact ⟨μ', by rw [h1, h2], h3⟩

/-- StoneSecretsModel.best(II)I -/
theorem m_best (d : Nat) (w x : Int32) (n : Nat) {V : sVal} {W : sWall} {U : List sWall} {K : Nat → Option (sWall × sSeen)} {S : sSeen} {Y : sYear} {μ : am_M2} (ν : am_N2) (hR : mR μ V W U K S Y) (hO : vOk V) (hI : sI (vN V) (vP V) W.1 W.2.1) (ht : W.2.2 < 2 ^ 20) (hN : nOk V S) : ∃ (μ' : am_M2), am_run (d + 16) 267 [.ref 133, .int w, .int x] (am_hp n μ ν) = some (some (.int (qBest V W w x)), am_hp n μ' ν) ∧ fr μ μ' := by
  have h6 := hO.1.1
  have hP8 := hO.1.2.1
  have hR0 := mR_fr (fr_thr μ) hR
  have key : ∃ r, am_run (d + 16) 267 [.ref 133, .int w, .int x] (am_hp n μ ν) = some r ∧ ∃ (μ' : am_M2), r = (some (.int (qBest V W w x)), am_hp n μ' ν) ∧ fr μ μ' := am_run_wE (k := 267) (d := d + 15) rfl rfl (Nat.le_of_ble_eq_true rfl) [some (.ref 133), some (.int w), some (.int x)] rfl (by
    refine am_q_aload_n rfl rfl ?_
    refine am_q_iconst (v := nI 0) rfl rfl ?_
    refine am_q_pi rfl rfl rfl (Or.inl rfl) ?_
    refine am_q_iload_n rfl rfl ?_
    refine am_q_iconst (v := nI 0) rfl rfl ?_
    refine am_q_bipush (v := nI 30) rfl rfl ?_
    refine am_q_call rfl rfl (m_within _ _ _ _ _) rfl ?_
    refine am_q_if_eqB rfl (fun c_12 => ?_) (fun c_12 => ?_)
    · refine am_q_iconst (v := -1) rfl rfl ?_
      refine am_q_ireturn rfl rfl rfl ?_
      rw [qBest, if_neg (by rw [c_12, Bool.false_and]; exact Bool.false_ne_true)]
      exact ⟨_, rfl, fr_thr μ⟩
    · obtain ⟨w1, -, hw, rfl⟩ := rIn_k c_12 (by decide) (by decide)
      refine am_q_iload_n rfl rfl ?_
      refine am_q_iconst (v := nI 0) rfl rfl ?_
      refine am_q_iconst (v := nI 1) rfl rfl ?_
      refine am_q_call rfl rfl (m_within _ _ _ _ _) rfl ?_
      refine am_q_if_neB rfl (fun c_21 => ?_) (fun c_21 => ?_)
      · obtain ⟨x1, -, hx, rfl⟩ := rIn_k c_21 (by decide) (by decide)
        refine am_q_aload_n rfl rfl ?_
        refine am_q_iload_n rfl rfl ?_
        obtain ⟨μ2, hc2, hA2, hf2⟩ := m_gathers d n ν hR0 hO hI ht hN (some w1) (fun w hw => by cases hw; exact hw)
        refine am_q_call rfl rfl (hc2) rfl ?_
        refine am_q_iload_n rfl rfl ?_
        refine am_q_if_ne rfl (fun c_32 => ?_) (fun c_32 => ?_)
        · refine am_q_aload_n rfl rfl ?_
          refine am_q_gi rfl rfl rfl (hA2.2.2.2.2.2.2 w1 rfl).2 ?_
          refine am_q_ireturn rfl rfl rfl ?_
          rw [qBest, if_pos (by rw [c_12, c_21]; rfl), ik_nI (by omega), ik_nI (by omega), evV, if_neg (fun z => c_32 (by rw [z]; rfl))]
          exact ⟨_, rfl, fr_tr (fr_thr μ) hf2⟩
        · refine am_q_aload_n rfl rfl ?_
          refine am_q_gi rfl rfl rfl (hA2.2.2.2.2.2.2 w1 rfl).1 ?_
          refine am_q_goto rfl ?_
          refine am_q_ireturn rfl rfl rfl ?_
          rw [qBest, if_pos (by rw [c_12, c_21]; rfl), ik_nI (by omega), ik_nI (by omega), evV, if_pos ((nI_eq (by omega) (by decide)).mp c_32)]
          exact ⟨_, rfl, fr_tr (fr_thr μ) hf2⟩
      · refine am_q_iconst (v := -1) rfl rfl ?_
        refine am_q_ireturn rfl rfl rfl ?_
        rw [qBest, if_neg (by rw [c_21, Bool.and_false]; exact Bool.false_ne_true)]
        exact ⟨_, rfl, fr_thr μ⟩)
  obtain ⟨r, h1, μ', h2, h3⟩ := key
  exact ⟨μ', by rw [h1, h2], h3⟩

/-- StoneSecretsModel.times(II)I -/
theorem m_times (d : Nat) (s p : Int32) (n : Nat) {V : sVal} {W : sWall} {U : List sWall} {K : Nat → Option (sWall × sSeen)} {S : sSeen} {Y : sYear} {μ : am_M2} (ν : am_N2) (hR : mR μ V W U K S Y) (hO : vOk V) (hI : sI (vN V) (vP V) W.1 W.2.1) (ht : W.2.2 < 2 ^ 20) (hN : nOk V S) : ∃ (μ' : am_M2), am_run (d + 16) 265 [.ref 133, .int s, .int p] (am_hp n μ ν) = some (some (.int (qTimes V W s p)), am_hp n μ' ν) ∧ fr μ μ' := by
  have h6 := hO.1.1
  have hP8 := hO.1.2.1
  have hR0 := mR_fr (fr_thr μ) hR
  have key : ∃ r, am_run (d + 16) 265 [.ref 133, .int s, .int p] (am_hp n μ ν) = some r ∧ ∃ (μ' : am_M2), r = (some (.int (qTimes V W s p)), am_hp n μ' ν) ∧ fr μ μ' := am_run_wE (k := 265) (d := d + 15) rfl rfl (Nat.le_of_ble_eq_true rfl) [some (.ref 133), some (.int s), some (.int p)] rfl (by
    refine am_q_aload_n rfl rfl ?_
    refine am_q_iconst (v := nI 0) rfl rfl ?_
    refine am_q_pi rfl rfl rfl (Or.inl rfl) ?_
    refine am_q_aload_n rfl rfl ?_
    refine am_q_iconst (v := -1) rfl rfl ?_
    obtain ⟨μ2, hc2, hA2, hf2⟩ := m_gathers d n ν hR0 hO hI ht hN none (fun w hw => (by cases hw))
    have hV2 := mVal_fr hf2 hR0.1
    refine am_q_call rfl rfl ((show am_run (d + 15) 258 [.ref 133, .int (-1)] _ = _ from hc2)) rfl ?_
    refine am_q_aload_n rfl rfl ?_
    refine am_q_iload_n rfl rfl ?_
    refine am_q_call rfl rfl (m_isSoul _ _ _ _ hV2 hO) rfl ?_
    refine am_q_if_eqB rfl (fun c_15 => ?_) (fun c_15 => ?_)
    · refine am_q_iconst (v := -1) rfl rfl ?_
      refine am_q_ireturn rfl rfl rfl ?_
      rw [qTimes, if_neg (fun z => by have := c_15.symm.trans z.1; cases this)]
      exact ⟨_, rfl, fr_tr (fr_thr μ) hf2⟩
    · obtain ⟨k, hk, rfl, hix⟩ := isI c_15 (by omega)
      refine am_q_aload_n rfl rfl ?_
      refine am_q_iload_n rfl rfl ?_
      refine am_q_call rfl rfl (m_isPlace _ _ _ _ hV2 hO) rfl ?_
      refine am_q_if_eqB rfl (fun c_23 => ?_) (fun c_23 => ?_)
      · refine am_q_iconst (v := -1) rfl rfl ?_
        refine am_q_ireturn rfl rfl rfl ?_
        rw [qTimes, if_neg (fun z => by have := c_23.symm.trans z.2; cases this)]
        exact ⟨_, rfl, fr_tr (fr_thr μ) hf2⟩
      · obtain ⟨q, hq, rfl, hiq⟩ := isI c_23 (by omega)
        refine am_q_aload_n rfl rfl ?_
        refine am_q_gr rfl rfl rfl ?_
        refine am_q_bipush (v := nI 8) rfl rfl ?_
        refine am_q_iload_n rfl rfl ?_
        refine am_q_imul rfl (pk_mul 8 k) ?_
        refine am_q_iload_n rfl rfl ?_
        refine am_q_iadd rfl (nI_add (8 * k) q) ?_
        refine am_q_iald rfl rfl (am_ix_nI (show 8 * k + q < 48 by omega) (by decide)) ((hA2.2.1 k hk).1 q hq) ?_
        refine am_q_goto rfl ?_
        refine am_q_ireturn rfl rfl rfl ?_
        rw [qTimes, if_pos ⟨c_15, c_23⟩, ik_nI (by omega), ik_nI (by omega)]
        exact ⟨_, rfl, fr_tr (fr_thr μ) hf2⟩)
  obtain ⟨r, h1, μ', h2, h3⟩ := key
  exact ⟨μ', by rw [h1, h2], h3⟩

theorem sto_n {V : sVal} {W : sWall} {k : Nat} (hk : k < vN V) (h6 : vN V ≤ 6) (h : isSto V W (nI k) = false) {w : Nat → Option Nat} (hw : w ∈ waysOf V W) : w k = none := by
  cases hq : w k with
  | none => rfl
  | some p =>
    have := ways_dom w hw k (by rw [hq]; rfl)
    unfold isSto at h
    rw [sIs_nI hk (by omega), sIs_nI hk (by omega), sIs_nI hk (by omega)] at h
    unfold sAll sLo sSt at this
    rw [Nat.testBit_or, sBits_tb, sBits_tb, decide_eq_true hk, Bool.true_and, Bool.true_and, h] at this
    cases this
theorem wayV_n {V : sVal} {W : sWall} {k m : Nat} (hk : k < vN V) (h6 : vN V ≤ 6) (h : isSto V W (nI k) = false) : wayV (waysOf V W) m k = -1 := by
  unfold wayV
  cases hq : (waysOf V W)[m]? with
  | none => rfl
  | some w => show sn_place (w k) = -1; rw [sto_n hk h6 h (List.mem_of_getElem? hq)]; rfl
theorem qWay_k {V : sVal} {W : sWall} {k m : Nat} (hk : k < vN V) (h6 : vN V ≤ 6) (hm : m < 2 ^ 31) : qWay V W (nI m) (nI k) = wayV (waysOf V W) m k := by
  unfold qWay
  cases h : isSto V W (nI k) with
  | true => rw [if_pos ⟨nI_pos hm, rfl⟩, ik_nI hm, ik_nI (by omega)]
  | false => rw [if_neg (fun z => by cases z.2), wayV_n hk h6 h]
theorem qWay_neg {V : sVal} {W : sWall} {nu s : Int32} (h : nu < 0) : qWay V W nu s = -1 := if_neg (fun z => z.1 h)
theorem qWay_o {V : sVal} {W : sWall} {nu s : Int32} (h : (am_ix s (vN V)).isSome = false) : qWay V W nu s = -1 := if_neg (fun z => by have := z.2; unfold isSto sIs at this; rw [isN h] at this; cases this)
theorem way_in {nu : Int32} {L : Nat} (hL : L < 2 ^ 30) (h : (decide (nI 0 ≤ nu) && decide (nu ≤ nI L - nI 1)) = true) : ∃ m, m < L ∧ nu = nI m := by
  rw [Bool.and_eq_true] at h
  have h1 := of_decide_eq_true h.1
  have h2 := of_decide_eq_true h.2
  cases L with
  | zero => exact absurd (Int32.le_trans h1 h2) (by decide)
  | succ L =>
    rw [show nI (L + 1) - nI 1 = nI L from nI_pred L] at h2
    obtain ⟨m, hm, rfl⟩ := nI_of (x := nu) (fun z => absurd h1 (fa_of_lt z).2.1)
    exact ⟨m, by have := (nI_leI hm (by omega)).mp h2; omega, rfl⟩
theorem way_out {nu : Int32} {L : Nat} (hL : L < 2 ^ 30) (h : (decide (nI 0 ≤ nu) && decide (nu ≤ nI L - nI 1)) = false) : nu < 0 ∨ ∃ m, m < 2 ^ 31 ∧ L ≤ m ∧ nu = nI m := by
  by_cases h0 : nu < 0
  · exact Or.inl h0
  · right
    obtain ⟨m, hm, rfl⟩ := nI_of h0
    refine ⟨m, hm, ?_, rfl⟩
    rw [decide_eq_true (nI_leI (by decide) hm |>.mpr (Nat.zero_le _)), Bool.true_and] at h
    have h2 := of_decide_eq_false h
    cases L with
    | zero => exact Nat.zero_le _
    | succ L =>
      rw [show nI (L + 1) - nI 1 = nI L from nI_pred L] at h2
      by_cases z : m ≤ L
      · exact absurd ((nI_leI hm (by omega)).mpr z) h2
      · omega
/-- StoneSecretsModel.way(II)I -/
theorem m_way (d : Nat) (nu s : Int32) (n : Nat) {V : sVal} {W : sWall} {U : List sWall} {K : Nat → Option (sWall × sSeen)} {S : sSeen} {Y : sYear} {μ : am_M2} (ν : am_N2) (hR : mR μ V W U K S Y) (hO : vOk V) (hI : sI (vN V) (vP V) W.1 W.2.1) (ht : W.2.2 < 2 ^ 20) (hN : nOk V S) : ∃ (μ' : am_M2), am_run (d + 16) 264 [.ref 133, .int nu, .int s] (am_hp n μ ν) = some (some (.int (qWay V W nu s)), am_hp n μ' ν) ∧ fr μ μ' := by
  have h6 := hO.1.1
  have hR0 := mR_fr (fr_tr (fr_thr μ) (fr_up (i := 133) (k := 21) (v := nu) (by omega))) hR
  have hlen : (waysOf V W).length ≤ 262144 := waysL_262 hO (sLo V W) (sSt V W) W.2.1
  have key : ∃ r, am_run (d + 16) 264 [.ref 133, .int nu, .int s] (am_hp n μ ν) = some r ∧ ∃ (μ' : am_M2), r = (some (.int (qWay V W nu s)), am_hp n μ' ν) ∧ fr μ μ' := am_run_wE (k := 264) (d := d + 15) rfl rfl (Nat.le_of_ble_eq_true rfl) [some (.ref 133), some (.int nu), some (.int s)] rfl (by
    refine am_q_aload_n rfl rfl ?_
    refine am_q_iconst (v := nI 0) rfl rfl ?_
    refine am_q_pi rfl rfl rfl (Or.inl rfl) ?_
    refine am_q_aload_n rfl rfl ?_
    refine am_q_iload_n rfl rfl ?_
    refine am_q_pi rfl rfl rfl (Or.inl rfl) ?_
    refine am_q_aload_n rfl rfl ?_
    refine am_q_iconst (v := -1) rfl rfl ?_
    obtain ⟨μ2, hc2, hA2, hf2⟩ := m_gathers d n ν hR0 hO hI ht hN none (fun w hw => (by cases hw))
    have hV2 := mVal_fr hf2 hR0.1
    have hf3 := fr_tr (fr_tr (fr_thr μ) (fr_up (i := 133) (k := 21) (v := nu) (by omega))) hf2
    refine am_q_call rfl rfl ((show am_run (d + 15) 258 [.ref 133, .int (-1)] _ = _ from hc2)) rfl ?_
    refine am_q_aload_n rfl rfl ?_
    refine am_q_iload_n rfl rfl ?_
    refine am_q_call rfl rfl (m_isSoul _ _ _ _ hV2 hO) rfl ?_
    refine am_q_if_eqB rfl (fun c_20 => ?_) (fun c_20 => ?_)
    · refine am_q_iconst (v := -1) rfl rfl ?_
      refine am_q_ireturn rfl rfl rfl ?_
      rw [qWay_o c_20]
      exact ⟨_, rfl, hf3⟩
    · obtain ⟨k, hk, rfl, hix⟩ := isI c_20 (by omega)
      refine am_q_iload_n rfl rfl ?_
      refine am_q_iconst (v := nI 0) rfl rfl ?_
      refine am_q_aload_n rfl rfl ?_
      refine am_q_gi rfl rfl rfl hA2.1.1 ?_
      refine am_q_iconst (v := nI 1) rfl rfl ?_
      refine am_q_isub rfl rfl ?_
      refine am_q_call rfl rfl (m_within0 _ _ _ _ _) rfl ?_
      refine am_q_if_eqB rfl (fun c_34 => ?_) (fun c_34 => ?_)
      · refine am_q_iconst (v := -1) rfl rfl ?_
        refine am_q_ireturn rfl rfl rfl ?_
        have hq : qWay V W nu (nI k) = -1 := by
          rcases way_out (by omega) c_34 with z | ⟨m, hm, hm2, rfl⟩
          · exact qWay_neg z
          · rw [qWay_k hk h6 hm]; unfold wayV; rw [List.getElem?_eq_none hm2]
        rw [hq]
        exact ⟨_, rfl, hf3⟩
      · obtain ⟨m, hm, hme⟩ := way_in (by omega) c_34
        refine am_q_aload_n rfl rfl ?_
        refine am_q_gr rfl rfl rfl ?_
        refine am_q_iload_n rfl rfl ?_
        refine am_q_iald rfl rfl (am_ix_nI (show k < 6 by omega) (by decide)) ((hA2.2.1 k hk).2 m hm (by rw [am_up_eq]; exact hme)) ?_
        refine am_q_goto rfl ?_
        refine am_q_ireturn rfl rfl rfl ?_
        rw [hme, qWay_k hk h6 (by omega)]
        exact ⟨_, rfl, hf3⟩)
  obtain ⟨r, h1, μ', h2, h3⟩ := key
  exact ⟨μ', by rw [h1, h2], h3⟩
