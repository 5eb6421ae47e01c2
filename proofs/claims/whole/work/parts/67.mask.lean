theorem fr_thr (μ : am_M2) : fr μ (am_up μ 133 0 (nI 0)) := fr_up (by omega)
theorem rIn_w {w : Int32} {lo hi : Nat} : rIn w lo hi = (decide (nI lo ≤ w) && decide (w ≤ nI hi)) := by unfold rIn; rw [Bool.decide_and]
theorem rIn_ix {w : Int32} {m : Nat} (hm : m + 1 < 2 ^ 31) : rIn w 0 m = (am_ix w (m + 1)).isSome := by
  rcases sn_ix w hm with ⟨h, h2⟩ | ⟨k, h1, h2, h3⟩
  · rw [h]
    rcases h2 with h2 | h2
    · exact rIn_lo h2
    · exact rIn_hi (fa_trans (nI_lt (by omega) hm) h2.2)
  · rw [h3, h2, rIn_nI (by omega) (by decide) (by omega)]; simp; omega
/-- StoneSecretsModel.within(III)Z -/
theorem m_within0 (d : Nat) (v a e : Int32) (h : am_H) : am_run (d + 1) 219 [.int v, .int a, .int e] (h) = some (some (.int (sB (decide (a ≤ v) && decide (v ≤ e)))), h) := by
  refine am_r219 (d := d + 0) (Nat.le_of_ble_eq_true rfl) [some (.int v), some (.int a), some (.int e)] rfl ?_
  refine am_q_iload_n rfl rfl ?_
  refine am_q_iload_n rfl rfl ?_
  refine am_q_icmp_lt rfl (fun c_2 => ?_) (fun c_2 => ?_)
  · refine am_q_iconst (v := nI 0) rfl rfl ?_
    refine am_q_ireturn rfl rfl rfl ?_
    first | (rw [decide_eq_true (fa_of_nlt c_2), decide_eq_true (fa_of_nlt c_7)]; rfl) | (rw [decide_eq_true (fa_of_nlt c_2), decide_eq_false (Int32.not_le.mpr c_7)]; rfl) | (rw [decide_eq_false (Int32.not_le.mpr c_2)]; rfl)
  · refine am_q_iload_n rfl rfl ?_
    refine am_q_iload_n rfl rfl ?_
    refine am_q_icmp_gt rfl (fun c_7 => ?_) (fun c_7 => ?_)
    · refine am_q_iconst (v := nI 0) rfl rfl ?_
      refine am_q_ireturn rfl rfl rfl ?_
      first | (rw [decide_eq_true (fa_of_nlt c_2), decide_eq_true (fa_of_nlt c_7)]; rfl) | (rw [decide_eq_true (fa_of_nlt c_2), decide_eq_false (Int32.not_le.mpr c_7)]; rfl) | (rw [decide_eq_false (Int32.not_le.mpr c_2)]; rfl)
    · refine am_q_iconst (v := nI 1) rfl rfl ?_
      refine am_q_goto rfl ?_
      refine am_q_ireturn rfl rfl rfl ?_
      first | (rw [decide_eq_true (fa_of_nlt c_2), decide_eq_true (fa_of_nlt c_7)]; rfl) | (rw [decide_eq_true (fa_of_nlt c_2), decide_eq_false (Int32.not_le.mpr c_7)]; rfl) | (rw [decide_eq_false (Int32.not_le.mpr c_2)]; rfl)

theorem m_within (d : Nat) (v : Int32) (lo hi : Nat) (h : am_H) : am_run (d + 1) 219 [.int v, .int (nI lo), .int (nI hi)] h = some (some (.int (sB (rIn v lo hi))), h) := by rw [rIn_w]; exact m_within0 d v _ _ h
theorem wAt_m (V : sVal) (pl : Nat → Option Nat) (p : Nat) : ∀ n, wAt V pl p n = (match mAt pl p n with
  | none => 0
  | some i => vW V i)
  | 0 => rfl
  | n + 1 => by
    have e1 : wAt V pl p (n + 1) = if pl n = some p then vW V n else wAt V pl p n := rfl
    have e2 : mAt pl p (n + 1) = if pl n = some p then some n else mAt pl p n := rfl
    rw [e1, e2]
    by_cases h : pl n = some p
    · rw [if_pos h, if_pos h]
    · rw [if_neg h, if_neg h]; exact wAt_m V pl p n
theorem wAt_s {V : sVal} {pl : Nat → Option Nat} (h6 : vN V ≤ 6) (hp : pOk V pl) (p : Nat) : wAt V pl p (vN V) = (match sAt pl p (vN V) with
  | none => 0
  | some i => vW V i) := by rw [← mAt_eq h6 hp p]; exact wAt_m V pl p _
/-- StoneSecretsModel.weightAt(I)I -/
theorem m_weightAt (d : Nat) (n : Nat) {V : sVal} {W : sWall} {μ : am_M2} (ν : am_N2) (hV : mVal μ V) (hO : vOk V) (hW : mWall μ 0 W) (hI : sI (vN V) (vP V) W.1 W.2.1) (p : Nat) (hp : p < 2 ^ 31) : am_run (d + 3) 263 [.ref 133, .int (nI p)] (am_hp n μ ν) = some (some (.int (nI (wAt V W.2.1 p (vN V)))), am_hp n μ ν) := by
  have h6 := hO.1.1
  have hP8 := hO.1.2.1
  have h8 := sI_8 hO hI
  have hpk := sI_p hI
  have hws := wAt_s h6 hpk p
  refine am_r263 (d := d + 2) (Nat.le_of_ble_eq_true rfl) [some (.ref 133), some (.int (nI p)), none] rfl ?_
  refine am_q_aload_n rfl rfl ?_
  refine am_q_iconst (v := nI 0) rfl rfl ?_
  refine am_q_iload_n rfl rfl ?_
  refine am_q_call rfl rfl (m_whoAt _ n ν hV hO 0 (by decide) hW hI p hp) rfl ?_
  refine am_q_istore_n [some _, some _, some _] rfl (Nat.le_of_ble_eq_true rfl) rfl ?_
  refine am_q_iload_n rfl rfl ?_
  refine am_q_if_ge rfl (fun c_8 => ?_) (fun c_8 => ?_)
  · obtain ⟨i, hi⟩ := sn_place_ge (fun z hz => by have := sAt_lt hz; omega) c_8
    rw [hi] at hws
    have hiN := sAt_lt hi
    rw [show sn_place (sAt W.2.1 p (vN V)) = nI i by rw [hi]; rfl]
    refine am_q_aload_n rfl rfl ?_
    refine am_q_iload_n rfl rfl ?_
    refine am_q_call rfl rfl (m_weightOf _ n ν hV hO i hiN) rfl ?_
    refine am_q_ireturn rfl rfl rfl ?_
    rw [hws]
  · have hn := sn_place_nge (fun z hz => by have := sAt_lt hz; omega) c_8
    rw [hn] at hws
    refine am_q_iconst (v := nI 0) rfl rfl ?_
    refine am_q_goto rfl ?_
    refine am_q_ireturn rfl rfl rfl ?_
    rw [hws]

theorem m_soul_o (d : Nat) (s w : Int32) (n : Nat) {V : sVal} {W : sWall} {μ : am_M2} (ν : am_N2) (hV : mVal μ V) (hO : vOk V) (hW : mWall μ 0 W) (hI : sI (vN V) (vP V) W.1 W.2.1) (ht : W.2.2 < 2 ^ 20) (hn : (am_ix s (vN V)).isSome = false) : am_run (d + 3) 217 [.ref 133, .int s, .int w] (am_hp n μ ν) = some (some (.int (qSoul V W s w)), am_hp n (am_up μ 133 0 (nI 0)) ν) := by
  have h6 := hO.1.1
  have hP8 := hO.1.2.1
  have h8 := sI_8 hO hI
  have hpk := sI_p hI
  have hV0 := mVal_fr (fr_thr μ) hV
  have hW0 := mWall_fr (fr_thr μ) (by decide) hW
  refine am_r217 (d := d + 2) (Nat.le_of_ble_eq_true rfl) [some (.ref 133), some (.int s), some (.int w)] rfl ?_
  refine am_q_aload_n rfl rfl ?_
  refine am_q_iconst (v := nI 0) rfl rfl ?_
  refine am_q_pi rfl rfl rfl (Or.inl rfl) ?_
  refine am_q_aload_n rfl rfl ?_
  refine am_q_iload_n rfl rfl ?_
  refine am_q_call rfl rfl (m_isSoul _ _ _ _ hV0 hO) rfl ?_
  refine am_q_if_eqB rfl (fun c_10 => ?_) (fun c_10 => by rw [hn] at c_10; cases c_10)
  refine am_q_bipush (v := -2) rfl rfl ?_
  refine am_q_ireturn rfl rfl rfl ?_
  rw [qSoul, if_neg (by rw [hn]; decide)]

theorem m_soul_0 (d : Nat) (k : Nat) (n : Nat) {V : sVal} {W : sWall} {μ : am_M2} (ν : am_N2) (hV : mVal μ V) (hO : vOk V) (hW : mWall μ 0 W) (hI : sI (vN V) (vP V) W.1 W.2.1) (ht : W.2.2 < 2 ^ 20) (hk : k < vN V) : am_run (d + 3) 217 [.ref 133, .int (nI k), .int (nI 0)] (am_hp n μ ν) = some (some (.int (qSoul V W (nI k) (nI 0))), am_hp n (am_up μ 133 0 (nI 0)) ν) := by
  have h6 := hO.1.1
  have hP8 := hO.1.2.1
  have h8 := sI_8 hO hI
  have hpk := sI_p hI
  have hV0 := mVal_fr (fr_thr μ) hV
  have hW0 := mWall_fr (fr_thr μ) (by decide) hW
  have hix : am_ix (nI k) (vN V) = some k := am_ix_nI hk (by omega)
  refine am_r217 (d := d + 2) (Nat.le_of_ble_eq_true rfl) [some (.ref 133), some (.int (nI k)), some (.int (nI 0))] rfl ?_
  refine am_q_aload_n rfl rfl ?_
  refine am_q_iconst (v := nI 0) rfl rfl ?_
  refine am_q_pi rfl rfl rfl (Or.inl rfl) ?_
  refine am_q_aload_n rfl rfl ?_
  refine am_q_iload_n rfl rfl ?_
  refine am_q_call rfl rfl (m_isSoul _ _ _ _ hV0 hO) rfl ?_
  refine am_q_if_eqB rfl (fun c_10 => by rw [hix] at c_10; cases c_10) (fun c_10 => ?_)
  refine am_q_iload_n rfl rfl ?_
  refine am_q_iconst (v := nI 0) rfl rfl ?_
  refine am_q_iconst (v := nI 5) rfl rfl ?_
  refine am_q_call rfl rfl (m_within _ _ _ _ _) rfl ?_
  refine am_q_if_neB rfl (fun c_19 => ?_) (fun c_19 => absurd c_19 (by decide))
  refine am_q_iload_n rfl rfl ?_
  refine am_q_iconst (v := nI 3) rfl rfl ?_
  refine am_q_igeN rfl (by omega) (by omega) (fun c_27 => absurd c_27 (by omega)) (fun c_27 => ?_)
  refine am_q_aload_n rfl rfl ?_
  refine am_q_iload_n rfl rfl ?_
  refine am_q_iload_n rfl rfl ?_
  refine am_q_call rfl rfl (m_soulK _ n ν hV0 hO k hk) rfl ?_
  refine am_q_goto rfl ?_
  refine am_q_ireturn rfl rfl rfl ?_
  rw [qSoul, if_pos (by rw [hix]; rfl), ik_nI (by omega)]; rfl

theorem m_soul_1 (d : Nat) (k : Nat) (n : Nat) {V : sVal} {W : sWall} {μ : am_M2} (ν : am_N2) (hV : mVal μ V) (hO : vOk V) (hW : mWall μ 0 W) (hI : sI (vN V) (vP V) W.1 W.2.1) (ht : W.2.2 < 2 ^ 20) (hk : k < vN V) : am_run (d + 3) 217 [.ref 133, .int (nI k), .int (nI 1)] (am_hp n μ ν) = some (some (.int (qSoul V W (nI k) (nI 1))), am_hp n (am_up μ 133 0 (nI 0)) ν) := by
  have h6 := hO.1.1
  have hP8 := hO.1.2.1
  have h8 := sI_8 hO hI
  have hpk := sI_p hI
  have hV0 := mVal_fr (fr_thr μ) hV
  have hW0 := mWall_fr (fr_thr μ) (by decide) hW
  have hix : am_ix (nI k) (vN V) = some k := am_ix_nI hk (by omega)
  refine am_r217 (d := d + 2) (Nat.le_of_ble_eq_true rfl) [some (.ref 133), some (.int (nI k)), some (.int (nI 1))] rfl ?_
  refine am_q_aload_n rfl rfl ?_
  refine am_q_iconst (v := nI 0) rfl rfl ?_
  refine am_q_pi rfl rfl rfl (Or.inl rfl) ?_
  refine am_q_aload_n rfl rfl ?_
  refine am_q_iload_n rfl rfl ?_
  refine am_q_call rfl rfl (m_isSoul _ _ _ _ hV0 hO) rfl ?_
  refine am_q_if_eqB rfl (fun c_10 => by rw [hix] at c_10; cases c_10) (fun c_10 => ?_)
  refine am_q_iload_n rfl rfl ?_
  refine am_q_iconst (v := nI 0) rfl rfl ?_
  refine am_q_iconst (v := nI 5) rfl rfl ?_
  refine am_q_call rfl rfl (m_within _ _ _ _ _) rfl ?_
  refine am_q_if_neB rfl (fun c_19 => ?_) (fun c_19 => absurd c_19 (by decide))
  refine am_q_iload_n rfl rfl ?_
  refine am_q_iconst (v := nI 3) rfl rfl ?_
  refine am_q_igeN rfl (by omega) (by omega) (fun c_27 => absurd c_27 (by omega)) (fun c_27 => ?_)
  refine am_q_aload_n rfl rfl ?_
  refine am_q_iload_n rfl rfl ?_
  refine am_q_iload_n rfl rfl ?_
  refine am_q_call rfl rfl (m_soulS _ n ν hV0 hO k hk) rfl ?_
  refine am_q_goto rfl ?_
  refine am_q_ireturn rfl rfl rfl ?_
  rw [qSoul, if_pos (by rw [hix]; rfl), ik_nI (by omega)]; rfl

theorem m_soul_2 (d : Nat) (k : Nat) (n : Nat) {V : sVal} {W : sWall} {μ : am_M2} (ν : am_N2) (hV : mVal μ V) (hO : vOk V) (hW : mWall μ 0 W) (hI : sI (vN V) (vP V) W.1 W.2.1) (ht : W.2.2 < 2 ^ 20) (hk : k < vN V) : am_run (d + 3) 217 [.ref 133, .int (nI k), .int (nI 2)] (am_hp n μ ν) = some (some (.int (qSoul V W (nI k) (nI 2))), am_hp n (am_up μ 133 0 (nI 0)) ν) := by
  have h6 := hO.1.1
  have hP8 := hO.1.2.1
  have h8 := sI_8 hO hI
  have hpk := sI_p hI
  have hV0 := mVal_fr (fr_thr μ) hV
  have hW0 := mWall_fr (fr_thr μ) (by decide) hW
  have hix : am_ix (nI k) (vN V) = some k := am_ix_nI hk (by omega)
  refine am_r217 (d := d + 2) (Nat.le_of_ble_eq_true rfl) [some (.ref 133), some (.int (nI k)), some (.int (nI 2))] rfl ?_
  refine am_q_aload_n rfl rfl ?_
  refine am_q_iconst (v := nI 0) rfl rfl ?_
  refine am_q_pi rfl rfl rfl (Or.inl rfl) ?_
  refine am_q_aload_n rfl rfl ?_
  refine am_q_iload_n rfl rfl ?_
  refine am_q_call rfl rfl (m_isSoul _ _ _ _ hV0 hO) rfl ?_
  refine am_q_if_eqB rfl (fun c_10 => by rw [hix] at c_10; cases c_10) (fun c_10 => ?_)
  refine am_q_iload_n rfl rfl ?_
  refine am_q_iconst (v := nI 0) rfl rfl ?_
  refine am_q_iconst (v := nI 5) rfl rfl ?_
  refine am_q_call rfl rfl (m_within _ _ _ _ _) rfl ?_
  refine am_q_if_neB rfl (fun c_19 => ?_) (fun c_19 => absurd c_19 (by decide))
  refine am_q_iload_n rfl rfl ?_
  refine am_q_iconst (v := nI 3) rfl rfl ?_
  refine am_q_igeN rfl (by omega) (by omega) (fun c_27 => absurd c_27 (by omega)) (fun c_27 => ?_)
  refine am_q_aload_n rfl rfl ?_
  refine am_q_iload_n rfl rfl ?_
  refine am_q_iload_n rfl rfl ?_
  refine am_q_call rfl rfl (m_soulD _ n ν hV0 hO k hk) rfl ?_
  refine am_q_goto rfl ?_
  refine am_q_ireturn rfl rfl rfl ?_
  rw [qSoul, if_pos (by rw [hix]; rfl), ik_nI (by omega)]; rfl

theorem m_soul_3 (d : Nat) (k : Nat) (n : Nat) {V : sVal} {W : sWall} {μ : am_M2} (ν : am_N2) (hV : mVal μ V) (hO : vOk V) (hW : mWall μ 0 W) (hI : sI (vN V) (vP V) W.1 W.2.1) (ht : W.2.2 < 2 ^ 20) (hk : k < vN V) : am_run (d + 3) 217 [.ref 133, .int (nI k), .int (nI 3)] (am_hp n μ ν) = some (some (.int (qSoul V W (nI k) (nI 3))), am_hp n (am_up μ 133 0 (nI 0)) ν) := by
  have h6 := hO.1.1
  have hP8 := hO.1.2.1
  have h8 := sI_8 hO hI
  have hpk := sI_p hI
  have hV0 := mVal_fr (fr_thr μ) hV
  have hW0 := mWall_fr (fr_thr μ) (by decide) hW
  have hix : am_ix (nI k) (vN V) = some k := am_ix_nI hk (by omega)
  refine am_r217 (d := d + 2) (Nat.le_of_ble_eq_true rfl) [some (.ref 133), some (.int (nI k)), some (.int (nI 3))] rfl ?_
  refine am_q_aload_n rfl rfl ?_
  refine am_q_iconst (v := nI 0) rfl rfl ?_
  refine am_q_pi rfl rfl rfl (Or.inl rfl) ?_
  refine am_q_aload_n rfl rfl ?_
  refine am_q_iload_n rfl rfl ?_
  refine am_q_call rfl rfl (m_isSoul _ _ _ _ hV0 hO) rfl ?_
  refine am_q_if_eqB rfl (fun c_10 => by rw [hix] at c_10; cases c_10) (fun c_10 => ?_)
  refine am_q_iload_n rfl rfl ?_
  refine am_q_iconst (v := nI 0) rfl rfl ?_
  refine am_q_iconst (v := nI 5) rfl rfl ?_
  refine am_q_call rfl rfl (m_within _ _ _ _ _) rfl ?_
  refine am_q_if_neB rfl (fun c_19 => ?_) (fun c_19 => absurd c_19 (by decide))
  refine am_q_iload_n rfl rfl ?_
  refine am_q_iconst (v := nI 3) rfl rfl ?_
  refine am_q_igeN rfl (by omega) (by omega) (fun c_27 => ?_) (fun c_27 => absurd c_27 (by omega))
  refine am_q_iload_n rfl rfl ?_
  refine am_q_iconst (v := nI 3) rfl rfl ?_
  refine am_q_ineN rfl (by omega) (by omega) (fun c_41 => absurd c_41 (by omega)) (fun c_41 => ?_)
  refine am_q_aload_n rfl rfl ?_
  refine am_q_iload_n rfl rfl ?_
  refine am_q_call rfl rfl (m_weightOf _ _ _ hV0 hO _ (by omega)) rfl ?_
  refine am_q_goto rfl ?_
  refine am_q_ireturn rfl rfl rfl ?_
  rw [qSoul, if_pos (by rw [hix]; rfl), ik_nI (by omega)]; rfl

theorem m_soul_4 (d : Nat) (k : Nat) (n : Nat) {V : sVal} {W : sWall} {μ : am_M2} (ν : am_N2) (hV : mVal μ V) (hO : vOk V) (hW : mWall μ 0 W) (hI : sI (vN V) (vP V) W.1 W.2.1) (ht : W.2.2 < 2 ^ 20) (hk : k < vN V) : am_run (d + 3) 217 [.ref 133, .int (nI k), .int (nI 4)] (am_hp n μ ν) = some (some (.int (qSoul V W (nI k) (nI 4))), am_hp n (am_up μ 133 0 (nI 0)) ν) := by
  have h6 := hO.1.1
  have hP8 := hO.1.2.1
  have h8 := sI_8 hO hI
  have hpk := sI_p hI
  have hV0 := mVal_fr (fr_thr μ) hV
  have hW0 := mWall_fr (fr_thr μ) (by decide) hW
  have hix : am_ix (nI k) (vN V) = some k := am_ix_nI hk (by omega)
  refine am_r217 (d := d + 2) (Nat.le_of_ble_eq_true rfl) [some (.ref 133), some (.int (nI k)), some (.int (nI 4))] rfl ?_
  refine am_q_aload_n rfl rfl ?_
  refine am_q_iconst (v := nI 0) rfl rfl ?_
  refine am_q_pi rfl rfl rfl (Or.inl rfl) ?_
  refine am_q_aload_n rfl rfl ?_
  refine am_q_iload_n rfl rfl ?_
  refine am_q_call rfl rfl (m_isSoul _ _ _ _ hV0 hO) rfl ?_
  refine am_q_if_eqB rfl (fun c_10 => by rw [hix] at c_10; cases c_10) (fun c_10 => ?_)
  refine am_q_iload_n rfl rfl ?_
  refine am_q_iconst (v := nI 0) rfl rfl ?_
  refine am_q_iconst (v := nI 5) rfl rfl ?_
  refine am_q_call rfl rfl (m_within _ _ _ _ _) rfl ?_
  refine am_q_if_neB rfl (fun c_19 => ?_) (fun c_19 => absurd c_19 (by decide))
  refine am_q_iload_n rfl rfl ?_
  refine am_q_iconst (v := nI 3) rfl rfl ?_
  refine am_q_igeN rfl (by omega) (by omega) (fun c_27 => ?_) (fun c_27 => absurd c_27 (by omega))
  refine am_q_iload_n rfl rfl ?_
  refine am_q_iconst (v := nI 3) rfl rfl ?_
  refine am_q_ineN rfl (by omega) (by omega) (fun c_41 => ?_) (fun c_41 => absurd c_41 (by omega))
  refine am_q_iload_n rfl rfl ?_
  refine am_q_iconst (v := nI 4) rfl rfl ?_
  refine am_q_ineN rfl (by omega) (by omega) (fun c_54 => absurd c_54 (by omega)) (fun c_54 => ?_)
  refine am_q_aload_n rfl rfl ?_
  refine am_q_iconst (v := nI 0) rfl rfl ?_
  refine am_q_iload_n rfl rfl ?_
  refine am_q_call rfl rfl (m_isNowW _ n ν 0 (by decide) hW0 _ (by omega)) rfl ?_
  refine am_q_goto rfl ?_
  refine am_q_ireturn rfl rfl rfl ?_
  rw [qSoul, if_pos (by rw [hix]; rfl), ik_nI (by omega)]; rfl

theorem m_soul_5 (d : Nat) (k : Nat) (n : Nat) {V : sVal} {W : sWall} {μ : am_M2} (ν : am_N2) (hV : mVal μ V) (hO : vOk V) (hW : mWall μ 0 W) (hI : sI (vN V) (vP V) W.1 W.2.1) (ht : W.2.2 < 2 ^ 20) (hk : k < vN V) : am_run (d + 3) 217 [.ref 133, .int (nI k), .int (nI 5)] (am_hp n μ ν) = some (some (.int (qSoul V W (nI k) (nI 5))), am_hp n (am_up μ 133 0 (nI 0)) ν) := by
  have h6 := hO.1.1
  have hP8 := hO.1.2.1
  have h8 := sI_8 hO hI
  have hpk := sI_p hI
  have hV0 := mVal_fr (fr_thr μ) hV
  have hW0 := mWall_fr (fr_thr μ) (by decide) hW
  have hix : am_ix (nI k) (vN V) = some k := am_ix_nI hk (by omega)
  refine am_r217 (d := d + 2) (Nat.le_of_ble_eq_true rfl) [some (.ref 133), some (.int (nI k)), some (.int (nI 5))] rfl ?_
  refine am_q_aload_n rfl rfl ?_
  refine am_q_iconst (v := nI 0) rfl rfl ?_
  refine am_q_pi rfl rfl rfl (Or.inl rfl) ?_
  refine am_q_aload_n rfl rfl ?_
  refine am_q_iload_n rfl rfl ?_
  refine am_q_call rfl rfl (m_isSoul _ _ _ _ hV0 hO) rfl ?_
  refine am_q_if_eqB rfl (fun c_10 => by rw [hix] at c_10; cases c_10) (fun c_10 => ?_)
  refine am_q_iload_n rfl rfl ?_
  refine am_q_iconst (v := nI 0) rfl rfl ?_
  refine am_q_iconst (v := nI 5) rfl rfl ?_
  refine am_q_call rfl rfl (m_within _ _ _ _ _) rfl ?_
  refine am_q_if_neB rfl (fun c_19 => ?_) (fun c_19 => absurd c_19 (by decide))
  refine am_q_iload_n rfl rfl ?_
  refine am_q_iconst (v := nI 3) rfl rfl ?_
  refine am_q_igeN rfl (by omega) (by omega) (fun c_27 => ?_) (fun c_27 => absurd c_27 (by omega))
  refine am_q_iload_n rfl rfl ?_
  refine am_q_iconst (v := nI 3) rfl rfl ?_
  refine am_q_ineN rfl (by omega) (by omega) (fun c_41 => ?_) (fun c_41 => absurd c_41 (by omega))
  refine am_q_iload_n rfl rfl ?_
  refine am_q_iconst (v := nI 4) rfl rfl ?_
  refine am_q_ineN rfl (by omega) (by omega) (fun c_54 => ?_) (fun c_54 => absurd c_54 (by omega))
  refine am_q_aload_n rfl rfl ?_
  refine am_q_gr rfl rfl rfl ?_
  refine am_q_bipush (v := nI 7) rfl rfl ?_
  refine am_q_iload_n rfl rfl ?_
  refine am_q_iadd rfl (nI_add _ _) ?_
  refine am_q_iald rfl rfl (by first | exact am_ix_nI (by omega) (by omega) | rfl) (hW0.2 k (by omega)).2 ?_
  refine am_q_ireturn rfl rfl rfl ?_
  rw [qSoul, if_pos (by rw [hix]; rfl), ik_nI (by omega)]; rfl

theorem m_soul_N (d : Nat) (k : Nat) (w : Int32) (n : Nat) {V : sVal} {W : sWall} {μ : am_M2} (ν : am_N2) (hV : mVal μ V) (hO : vOk V) (hW : mWall μ 0 W) (hI : sI (vN V) (vP V) W.1 W.2.1) (ht : W.2.2 < 2 ^ 20) (hk : k < vN V) (hw : am_ix w 6 = none) : am_run (d + 3) 217 [.ref 133, .int (nI k), .int w] (am_hp n μ ν) = some (some (.int (qSoul V W (nI k) w)), am_hp n (am_up μ 133 0 (nI 0)) ν) := by
  have h6 := hO.1.1
  have hP8 := hO.1.2.1
  have h8 := sI_8 hO hI
  have hpk := sI_p hI
  have hV0 := mVal_fr (fr_thr μ) hV
  have hW0 := mWall_fr (fr_thr μ) (by decide) hW
  have hix : am_ix (nI k) (vN V) = some k := am_ix_nI hk (by omega)
  have hwn : rIn w 0 5 = false := by rw [rIn_ix (by decide), hw]; rfl
  refine am_r217 (d := d + 2) (Nat.le_of_ble_eq_true rfl) [some (.ref 133), some (.int (nI k)), some (.int w)] rfl ?_
  refine am_q_aload_n rfl rfl ?_
  refine am_q_iconst (v := nI 0) rfl rfl ?_
  refine am_q_pi rfl rfl rfl (Or.inl rfl) ?_
  refine am_q_aload_n rfl rfl ?_
  refine am_q_iload_n rfl rfl ?_
  refine am_q_call rfl rfl (m_isSoul _ _ _ _ hV0 hO) rfl ?_
  refine am_q_if_eqB rfl (fun c_10 => by rw [hix] at c_10; cases c_10) (fun c_10 => ?_)
  refine am_q_iload_n rfl rfl ?_
  refine am_q_iconst (v := nI 0) rfl rfl ?_
  refine am_q_iconst (v := nI 5) rfl rfl ?_
  refine am_q_call rfl rfl (m_within _ _ _ _ _) rfl ?_
  refine am_q_if_neB rfl (fun c_19 => by rw [hwn] at c_19; cases c_19) (fun c_19 => ?_)
  refine am_q_bipush (v := -2) rfl rfl ?_
  refine am_q_ireturn rfl rfl rfl ?_
  rw [qSoul, if_pos (by rw [hix]; rfl)]
  rw [if_neg (fun e => by rw [e] at hw; exact absurd hw (by decide)), if_neg (fun e => by rw [e] at hw; exact absurd hw (by decide)), if_neg (fun e => by rw [e] at hw; exact absurd hw (by decide)), if_neg (fun e => by rw [e] at hw; exact absurd hw (by decide)), if_neg (fun e => by rw [e] at hw; exact absurd hw (by decide)), if_neg (fun e => by rw [e] at hw; exact absurd hw (by decide))]

theorem m_soul (d : Nat) (s w : Int32) (n : Nat) {V : sVal} {W : sWall} {μ : am_M2} (ν : am_N2) (hV : mVal μ V) (hO : vOk V) (hW : mWall μ 0 W) (hI : sI (vN V) (vP V) W.1 W.2.1) (ht : W.2.2 < 2 ^ 20) : am_run (d + 3) 217 [.ref 133, .int s, .int w] (am_hp n μ ν) = some (some (.int (qSoul V W s w)), am_hp n (am_up μ 133 0 (nI 0)) ν) := by
  have h6 := hO.1.1
  cases hs : (am_ix s (vN V)).isSome with
  | false => exact m_soul_o d s w n ν hV hO hW hI ht hs
  | true =>
    obtain ⟨k, hk, rfl, -⟩ := isI hs (by omega)
    rcases sn_ix w (N := 6) (by decide) with ⟨h, -⟩ | ⟨j, h1, rfl, -⟩
    · exact m_soul_N d k w n ν hV hO hW hI ht hk h
    · rcases (show j = 0 ∨ j = 1 ∨ j = 2 ∨ j = 3 ∨ j = 4 ∨ j = 5 by omega) with rfl | rfl | rfl | rfl | rfl | rfl
      · exact m_soul_0 d k n ν hV hO hW hI ht hk
      · exact m_soul_1 d k n ν hV hO hW hI ht hk
      · exact m_soul_2 d k n ν hV hO hW hI ht hk
      · exact m_soul_3 d k n ν hV hO hW hI ht hk
      · exact m_soul_4 d k n ν hV hO hW hI ht hk
      · exact m_soul_5 d k n ν hV hO hW hI ht hk
/-- StoneSecretsModel.stands(I)I -/
theorem m_stands (d : Nat) (p : Int32) (n : Nat) {V : sVal} {W : sWall} {μ : am_M2} (ν : am_N2) (hV : mVal μ V) (hO : vOk V) (hW : mWall μ 0 W) (hI : sI (vN V) (vP V) W.1 W.2.1) (ht : W.2.2 < 2 ^ 20) : am_run (d + 3) 223 [.ref 133, .int p] (am_hp n μ ν) = some (some (.int (qStands V W p)), am_hp n (am_up μ 133 0 (nI 0)) ν) := by
  have h6 := hO.1.1
  have hP8 := hO.1.2.1
  have h8 := sI_8 hO hI
  have hpk := sI_p hI
  have hV0 := mVal_fr (fr_thr μ) hV
  have hW0 := mWall_fr (fr_thr μ) (by decide) hW
  refine am_r223 (d := d + 2) (Nat.le_of_ble_eq_true rfl) [some (.ref 133), some (.int p)] rfl ?_
  refine am_q_aload_n rfl rfl ?_
  refine am_q_iconst (v := nI 0) rfl rfl ?_
  refine am_q_pi rfl rfl rfl (Or.inl rfl) ?_
  refine am_q_aload_n rfl rfl ?_
  refine am_q_iload_n rfl rfl ?_
  refine am_q_call rfl rfl (m_isPlace _ _ _ _ hV0 hO) rfl ?_
  refine am_q_if_eqB rfl (fun c_10 => ?_) (fun c_10 => ?_)
  · refine am_q_iconst (v := -1) rfl rfl ?_
    refine am_q_ireturn rfl rfl rfl ?_
    rw [qStands, if_neg (by rw [c_10]; decide)]
  · obtain ⟨k, hk, rfl, hix⟩ := isI c_10 (by omega)
    refine am_q_aload_n rfl rfl ?_
    refine am_q_iconst (v := nI 0) rfl rfl ?_
    refine am_q_iload_n rfl rfl ?_
    refine am_q_call rfl rfl (m_whoAt _ n ν hV0 hO 0 (by decide) hW0 hI _ (by omega)) rfl ?_
    refine am_q_goto rfl ?_
    refine am_q_ireturn rfl rfl rfl ?_
    rw [qStands, if_pos c_10, ik_nI (by omega)]

/-- StoneSecretsModel.grudges(I)I -/
theorem m_grudges (d : Nat) (s : Int32) (n : Nat) {V : sVal} {W : sWall} {μ : am_M2} (ν : am_N2) (hV : mVal μ V) (hO : vOk V) (hW : mWall μ 0 W) (hI : sI (vN V) (vP V) W.1 W.2.1) (ht : W.2.2 < 2 ^ 20) : am_run (d + 3) 278 [.ref 133, .int s] (am_hp n μ ν) = some (some (.int (qGrudges V s)), am_hp n (am_up μ 133 0 (nI 0)) ν) := by
  have h6 := hO.1.1
  have hP8 := hO.1.2.1
  have h8 := sI_8 hO hI
  have hpk := sI_p hI
  have hV0 := mVal_fr (fr_thr μ) hV
  have hW0 := mWall_fr (fr_thr μ) (by decide) hW
  refine am_r278 (d := d + 2) (Nat.le_of_ble_eq_true rfl) [some (.ref 133), some (.int s)] rfl ?_
  refine am_q_aload_n rfl rfl ?_
  refine am_q_iconst (v := nI 0) rfl rfl ?_
  refine am_q_pi rfl rfl rfl (Or.inl rfl) ?_
  refine am_q_aload_n rfl rfl ?_
  refine am_q_iload_n rfl rfl ?_
  refine am_q_call rfl rfl (m_isSoul _ _ _ _ hV0 hO) rfl ?_
  refine am_q_if_eqB rfl (fun c_10 => ?_) (fun c_10 => ?_)
  · refine am_q_iconst (v := -1) rfl rfl ?_
    refine am_q_ireturn rfl rfl rfl ?_
    rw [qGrudges, if_neg (by rw [c_10]; decide)]
  · obtain ⟨k, hk, rfl, hix⟩ := isI c_10 (by omega)
    refine am_q_aload_n rfl rfl ?_
    refine am_q_iload_n rfl rfl ?_
    refine am_q_call rfl rfl (m_hurtBy _ _ _ hV0 hO _ (by omega)) rfl ?_
    refine am_q_goto rfl ?_
    refine am_q_ireturn rfl rfl rfl ?_
    rw [qGrudges, if_pos c_10, ik_nI (by omega)]

theorem m_mayL (d k : Nat) (n : Nat) {V : sVal} {W : sWall} {μ : am_M2} (ν : am_N2) (hV : mVal μ V) (hO : vOk V) (hW : mWall μ 0 W) (hI : sI (vN V) (vP V) W.1 W.2.1) (ht : W.2.2 < 2 ^ 20) (hk : k < vN V) : ∀ (m j : Nat) , j + m = vP V → am_w (d + 4) (Option.some FieldType.int) am_g248 28 [some (.ref 133), some (.int (nI k)), some (.int (nI (sBits (sMay V W.2.1 k) j))), some (.int (nI j))] [] (am_hp n (am_up μ 133 0 (nI 0)) ν) (fun y => y = (some (.int (nI (sOpen V W.2.1 k))), am_hp n (am_up μ 133 0 (nI 0)) ν)) := by
  intro m
  induction m with
  | zero =>
    intro j  hj
    have h6 := hO.1.1
    have hP8 := hO.1.2.1
    have h8 := sI_8 hO hI
    have hpk := sI_p hI
    have hV0 := mVal_fr (fr_thr μ) hV
    have hW0 := mWall_fr (fr_thr μ) (by decide) hW
    refine am_q_iload_n rfl rfl ?_
    refine am_q_aload_n rfl rfl ?_
    refine am_q_call rfl rfl (m_places _ _ _ hV0) rfl ?_
    refine am_q_igeN rfl (by omega) (by omega) (fun c_33 => ?_) (fun c_33 => absurd c_33 (by omega))
    refine am_q_iload_n rfl rfl ?_
    refine am_q_ireturn rfl rfl rfl ?_
    rw [show j = vP V by omega]; rfl
  | succ m ih =>
    intro j  hj
    have h6 := hO.1.1
    have hP8 := hO.1.2.1
    have h8 := sI_8 hO hI
    have hpk := sI_p hI
    have hV0 := mVal_fr (fr_thr μ) hV
    have hW0 := mWall_fr (fr_thr μ) (by decide) hW
    have e := ih (j + 1) (by omega)
    rw [sBits_s] at e
    refine am_q_iload_n rfl rfl ?_
    refine am_q_aload_n rfl rfl ?_
    refine am_q_call rfl rfl (m_places _ _ _ hV0) rfl ?_
    refine am_q_igeN rfl (by omega) (by omega) (fun c_33 => absurd c_33 (by omega)) (fun c_33 => ?_)
    refine am_q_iload_n rfl rfl ?_
    refine am_q_aload_n rfl rfl ?_
    refine am_q_iconst (v := nI 0) rfl rfl ?_
    refine am_q_iload_n rfl rfl ?_
    refine am_q_iload_n rfl rfl ?_
    refine am_q_call rfl rfl (m_mayStand _ n ν hV0 hO 0 (by decide) hW0 hI _ (by omega) _ (by omega)) rfl ?_
    refine am_q_if_eqB rfl (fun c_44 => ?_) (fun c_44 => ?_)
    · rw [if_neg (by rw [c_44]; exact Bool.false_ne_true)] at e
      refine am_q_iconst (v := nI 0) rfl rfl ?_
      refine am_q_ior rfl (sn_or _ _) ?_
      refine am_q_istore_n [some _, some _, some _, some _] rfl (Nat.le_of_ble_eq_true rfl) rfl ?_
      refine am_q_iinc [some _, some _, some _, some _] rfl (c := nI 1) rfl rfl (Nat.le_of_ble_eq_true rfl) (nI_add _ _) rfl ?_
      refine am_q_goto rfl ?_
      first | exact e | (rw [Nat.or_zero]; exact e)
    · rw [if_pos c_44] at e
      refine am_q_iconst (v := nI 1) rfl rfl ?_
      refine am_q_iload_n rfl rfl ?_
      refine am_q_ishl rfl (sn_shl1 (by omega)) ?_
      refine am_q_goto rfl ?_
      refine am_q_ior rfl (sn_or _ _) ?_
      refine am_q_istore_n [some _, some _, some _, some _] rfl (Nat.le_of_ble_eq_true rfl) rfl ?_
      refine am_q_iinc [some _, some _, some _, some _] rfl (c := nI 1) rfl rfl (Nat.le_of_ble_eq_true rfl) (nI_add _ _) rfl ?_
      refine am_q_goto rfl ?_
      first | exact e | (rw [Nat.or_zero]; exact e)

/-- StoneSecretsModel.may(I)I -/
theorem m_may (d : Nat) (s : Int32) (n : Nat) {V : sVal} {W : sWall} {μ : am_M2} (ν : am_N2) (hV : mVal μ V) (hO : vOk V) (hW : mWall μ 0 W) (hI : sI (vN V) (vP V) W.1 W.2.1) (ht : W.2.2 < 2 ^ 20) : am_run (d + 5) 248 [.ref 133, .int s] (am_hp n μ ν) = some (some (.int (qMay V W s)), am_hp n (am_up μ 133 0 (nI 0)) ν) := by
  have h6 := hO.1.1
  have hP8 := hO.1.2.1
  have h8 := sI_8 hO hI
  have hpk := sI_p hI
  have hV0 := mVal_fr (fr_thr μ) hV
  have hW0 := mWall_fr (fr_thr μ) (by decide) hW
  refine am_r248 (d := d + 4) (Nat.le_of_ble_eq_true rfl) [some (.ref 133), some (.int s), none, none] rfl ?_
  refine am_q_aload_n rfl rfl ?_
  refine am_q_iconst (v := nI 0) rfl rfl ?_
  refine am_q_pi rfl rfl rfl (Or.inl rfl) ?_
  refine am_q_aload_n rfl rfl ?_
  refine am_q_iload_n rfl rfl ?_
  refine am_q_call rfl rfl (m_isSoul _ _ _ _ hV0 hO) rfl ?_
  refine am_q_if_eqB rfl (fun c_10 => ?_) (fun c_10 => ?_)
  · refine am_q_iconst (v := -1) rfl rfl ?_
    refine am_q_ireturn rfl rfl rfl ?_
    rw [qMay, if_neg (by rw [show (sIs (vN V) W.1 s 1 || sIs (vN V) W.1 s 3) = false from by unfold sIs; rw [isN c_10]; rfl]; decide)]
  · obtain ⟨k, hk, rfl, hix⟩ := isI c_10 (by omega)
    refine am_q_aload_n rfl rfl ?_
    refine am_q_iconst (v := nI 0) rfl rfl ?_
    refine am_q_iload_n rfl rfl ?_
    refine am_q_call rfl rfl (m_isLoose _ n ν 0 (by decide) hW0 _ (by omega) (hI _ (by omega)).1) rfl ?_
    refine am_q_if_neB rfl (fun c_19 => ?_) (fun c_19 => ?_)
    · refine am_q_iconst (v := nI 0) rfl rfl ?_
      refine am_q_istore_n [some _, some _, some _, none] rfl (Nat.le_of_ble_eq_true rfl) rfl ?_
      refine am_q_iconst (v := nI 0) rfl rfl ?_
      refine am_q_istore_n [some _, some _, some _, some _] rfl (Nat.le_of_ble_eq_true rfl) rfl ?_
      rw [qMay, if_pos (by rw [sIs_nI hk (by omega), sIs_nI hk (by omega)]; exact c_19), ik_nI (by omega)]
      exact m_mayL d k n ν hV hO hW hI ht hk (vP V) 0 (by omega)
    · refine am_q_iconst (v := -1) rfl rfl ?_
      refine am_q_ireturn rfl rfl rfl ?_
      rw [qMay, if_neg (by rw [show (sIs (vN V) W.1 (nI k) 1 || sIs (vN V) W.1 (nI k) 3) = false from by rw [sIs_nI hk (by omega), sIs_nI hk (by omega)]; exact c_19]; decide)]

/-- StoneSecretsModel.beside(I)I -/
theorem m_beside (d : Nat) (s : Int32) (n : Nat) {V : sVal} {W : sWall} {μ : am_M2} (ν : am_N2) (hV : mVal μ V) (hO : vOk V) (hW : mWall μ 0 W) (hI : sI (vN V) (vP V) W.1 W.2.1) (ht : W.2.2 < 2 ^ 20) : am_run (d + 4) 291 [.ref 133, .int s] (am_hp n μ ν) = some (some (.int (qBeside V W s)), am_hp n (am_up μ 133 0 (nI 0)) ν) := by
  have h6 := hO.1.1
  have hP8 := hO.1.2.1
  have h8 := sI_8 hO hI
  have hpk := sI_p hI
  have hV0 := mVal_fr (fr_thr μ) hV
  have hW0 := mWall_fr (fr_thr μ) (by decide) hW
  refine am_r291 (d := d + 3) (Nat.le_of_ble_eq_true rfl) [some (.ref 133), some (.int s)] rfl ?_
  refine am_q_aload_n rfl rfl ?_
  refine am_q_iconst (v := nI 0) rfl rfl ?_
  refine am_q_pi rfl rfl rfl (Or.inl rfl) ?_
  refine am_q_aload_n rfl rfl ?_
  refine am_q_iload_n rfl rfl ?_
  refine am_q_call rfl rfl (m_isSoul _ _ _ _ hV0 hO) rfl ?_
  refine am_q_if_eqB rfl (fun c_10 => ?_) (fun c_10 => ?_)
  · refine am_q_iconst (v := -1) rfl rfl ?_
    refine am_q_ireturn rfl rfl rfl ?_
    rw [qBeside, if_neg (by unfold sIs; rw [isN c_10]; exact Bool.false_ne_true)]
  · obtain ⟨k, hk, rfl, hix⟩ := isI c_10 (by omega)
    have k1 := hI k (by omega)
    have k4 := k1.1
    have hsk := sIs_nI (x := 2) (st := W.1) hk (by omega)
    refine am_q_aload_n rfl rfl ?_
    refine am_q_iconst (v := nI 0) rfl rfl ?_
    refine am_q_iload_n rfl rfl ?_
    refine am_q_call rfl rfl (m_isNowW _ n ν 0 (by decide) hW0 _ (by omega)) rfl ?_
    refine am_q_iconst (v := nI 2) rfl rfl ?_
    refine am_q_ineN rfl (by omega) (by omega) (fun c_20 => ?_) (fun c_20 => ?_)
    · refine am_q_iconst (v := -1) rfl rfl ?_
      refine am_q_ireturn rfl rfl rfl ?_
      rw [qBeside, if_neg (by rw [hsk, decide_eq_false c_20]; decide)]
    · obtain ⟨p, hpl⟩ := Option.isSome_iff_exists.mp (k1.2.1.mpr c_20)
      have h8p := h8 k (by omega) p hpl
      have hps : am_up μ 133 0 (nI 0) 145 (7 + k) = nI p := by rw [show 7 + k = 0 + 7 + k by omega, (hW0.2 k (by omega)).2, hpl]; rfl
      refine am_q_aload_n rfl rfl ?_
      refine am_q_iconst (v := nI 0) rfl rfl ?_
      refine am_q_aload_n rfl rfl ?_
      refine am_q_gr rfl rfl rfl ?_
      refine am_q_bipush (v := nI 7) rfl rfl ?_
      refine am_q_iload_n rfl rfl ?_
      refine am_q_iadd rfl (nI_add 7 k) ?_
      refine am_q_iald rfl rfl (am_ix_nI (show 7 + k < 836 by omega) (by decide)) hps ?_
      refine am_q_call rfl rfl (m_besideOf _ n ν hV0 hO 0 (by decide) hW0 hI _ (by omega)) rfl ?_
      refine am_q_goto rfl ?_
      refine am_q_ireturn rfl rfl rfl ?_
      rw [qBeside, if_pos (by rw [hsk, decide_eq_true c_20]), ik_nI (by omega), hpl, mBe_adj h6 hpk]
