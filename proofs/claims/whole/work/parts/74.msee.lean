theorem mSeen_add {μ : am_M2} {V : sVal} {W : sWall} {U : List sWall} {K : Nat → Option (sWall × sSeen)} {S : sSeen} {Y : sYear} {k w : Nat} {b : Bool} {u : Int32} (hu : u = sB b) (h8 : S.1 < 8) (hR : mR μ V W U K S Y) : mR (am_up (am_up (am_up (am_up μ 145 (14 + 3 * S.1) (nI k)) 145 (14 + 3 * S.1 + 1) (nI w)) 145 (14 + 3 * S.1 + 2) u) 145 13 (nI (S.1 + 1))) V W U K (seeDo S k w b) Y := by
  obtain ⟨hV, hW, hU, hK, hS, hY⟩ := hR
  have hfr : ∀ i q, (i = 145 → q < 13 ∨ 38 ≤ q) → (am_up (am_up (am_up (am_up μ 145 (14 + 3 * S.1) (nI k)) 145 (14 + 3 * S.1 + 1) (nI w)) 145 (14 + 3 * S.1 + 2) u) 145 13 (nI (S.1 + 1))) i q = μ i q := fun i q a => by
    rw [am_up_ne (by omega), am_up_ne (by omega), am_up_ne (by omega), am_up_ne (by omega)]
  refine ⟨mVal_c (fun i hi => by funext k; exact hfr i k (by omega)) hV, mWall_c (fun q a b => hfr _ _ (by omega)) hW, mUndo_c (hfr _ _ (by omega)) (fun q a b => hfr _ _ (by omega)) hU, mMk_c (fun m hm => hfr _ _ (by omega)) (fun q a b => hfr _ _ (by omega)) hK, ⟨am_up_eq, by show S.1 + 1 ≤ 8; omega, fun i hi => ?_⟩, mYear_c (fun q => hfr _ _ (by omega)) hY⟩
  have hi : i < S.1 + 1 := hi
  show _ = nI (fup S.2.1 S.1 k i) ∧ _ = nI (fup S.2.2.1 S.1 w i) ∧ _ = sB (fup S.2.2.2 S.1 b i)
  by_cases e : i = S.1
  · subst e
    unfold fup
    rw [if_pos rfl, if_pos rfl, if_pos rfl, Nat.zero_add]
    refine ⟨?_, ?_, ?_⟩
    · rw [am_up_ne (by omega), am_up_ne (by omega), am_up_ne (by omega), am_up_eq]
    · rw [am_up_ne (by omega), am_up_ne (by omega), am_up_eq]
    · rw [am_up_ne (by omega), am_up_eq, hu]
  · unfold fup
    rw [if_neg e, if_neg e, if_neg e]
    have h := hS.2.2 i (by omega)
    rw [am_up_ne (by omega), am_up_ne (by omega), am_up_ne (by omega), am_up_ne (by omega), am_up_ne (by omega), am_up_ne (by omega), am_up_ne (by omega), am_up_ne (by omega), am_up_ne (by omega), am_up_ne (by omega), am_up_ne (by omega), am_up_ne (by omega)]
    exact h
/-- StoneSecretsModel.see(IIZ)Z -/
theorem m_see (d : Nat) (p w : Int32) (b : Bool) (n : Nat) {V : sVal} {W : sWall} {U : List sWall} {K : Nat → Option (sWall × sSeen)} {S : sSeen} {Y : sYear} {μ : am_M2} (ν : am_N2) (hR : mR μ V W U K S Y) (hO : vOk V) (hI : sI (vN V) (vP V) W.1 W.2.1) (ht : W.2.2 < 2 ^ 20) : ∃ (μ' : am_M2), am_run (d + 3) 272 [.ref 133, .int p, .int w, .int (sB (b))] (am_hp n μ ν) = some (some (.int (sB (seeOk V S p w))), am_hp n μ' ν) ∧ mR μ' V W U K (seeS V S p w b) Y ∧ frM μ μ' := by
  have hS8 : S.1 ≤ 8 := hR.2.2.2.2.1.2.1
  have hR0 := mR_fr (fr_thr μ) hR
  obtain ⟨hV, hW, hU, hK, hS, hY⟩ := hR
  obtain ⟨hV0, hW0, hU0, hK0, hS0, hY0⟩ := hR0
  have h6 := hO.1.1
  have hP8 := hO.1.2.1
  have h8 := sI_8 hO hI
  have hpk := sI_p hI
  have key : ∃ r, am_run (d + 3) 272 [.ref 133, .int p, .int w, .int (sB (b))] (am_hp n μ ν) = some r ∧ ∃ (μ' : am_M2), r = (some (.int (sB (seeOk V S p w))), am_hp n μ' ν) ∧ mR μ' V W U K (seeS V S p w b) Y ∧ frM μ μ' := am_run_wE (k := 272) (d := d + 2) rfl rfl (Nat.le_of_ble_eq_true rfl) [some (.ref 133), some (.int p), some (.int w), some (.int (sB (b))), none] rfl (by
    refine am_q_aload_n rfl rfl ?_
    refine am_q_iconst (v := nI 0) rfl rfl ?_
    refine am_q_pi rfl rfl rfl (Or.inl rfl) ?_
    refine am_q_aload_n rfl rfl ?_
    refine am_q_iload_n rfl rfl ?_
    refine am_q_call rfl rfl (m_isPlace _ _ _ _ hV0 hO) rfl ?_
    refine am_q_if_eqB rfl (fun c_10 => ?_) (fun c_10 => ?_)
    · refine am_q_iconst (v := nI 0) rfl rfl ?_
      refine am_q_ireturn rfl rfl rfl ?_
      have hd : seeOk V S p w = false := by unfold seeOk; rw [c_10]; rfl
      rw [hd, show seeS V S p w b = S from if_neg (by rw [hd]; exact Bool.false_ne_true)]
      exact ⟨_, rfl, (mR_fr (fr_thr μ) ⟨hV, hW, hU, hK, hS, hY⟩), frM_up (by decide)⟩
    · obtain ⟨k, hk, rfl, hix⟩ := isI c_10 (by omega)
      refine am_q_iload_n rfl rfl ?_
      refine am_q_iconst (v := nI 1) rfl rfl ?_
      refine am_q_bipush (v := nI 60) rfl rfl ?_
      refine am_q_call rfl rfl (m_within _ _ _ _ _) rfl ?_
      refine am_q_if_eqB rfl (fun c_20 => ?_) (fun c_20 => ?_)
      · refine am_q_iconst (v := nI 0) rfl rfl ?_
        refine am_q_ireturn rfl rfl rfl ?_
        have hd : seeOk V S (nI k) w = false := by unfold seeOk; rw [c_20, Bool.and_false]; rfl
        rw [hd, show seeS V S (nI k) w b = S from if_neg (by rw [hd]; exact Bool.false_ne_true)]
        exact ⟨_, rfl, (mR_fr (fr_thr μ) ⟨hV, hW, hU, hK, hS, hY⟩), frM_up (by decide)⟩
      · obtain ⟨w1, h1, h60, rfl⟩ := rIn_k c_20 (by decide) (by decide)
        refine am_q_aload_n rfl rfl ?_
        refine am_q_gr rfl rfl rfl ?_
        refine am_q_bipush (v := nI 13) rfl rfl ?_
        refine am_q_iald rfl rfl (by first | exact am_ix_nI (by omega) (by omega) | rfl) (show _ = nI S.1 from hS0.1) ?_
        refine am_q_bipush (v := nI 8) rfl rfl ?_
        refine am_q_ineN rfl (by omega) (by omega) (fun c_32 => ?_) (fun c_32 => ?_)
        · refine am_q_bipush (v := nI 14) rfl rfl ?_
          refine am_q_iconst (v := nI 3) rfl rfl ?_
          refine am_q_aload_n rfl rfl ?_
          refine am_q_gr rfl rfl rfl ?_
          refine am_q_bipush (v := nI 13) rfl rfl ?_
          refine am_q_iald rfl rfl (by first | exact am_ix_nI (by omega) (by omega) | rfl) (show _ = nI S.1 from hS0.1) ?_
          refine am_q_imul rfl (pk_mul _ _) ?_
          refine am_q_iadd rfl (nI_add _ _) ?_
          refine am_q_istore [some _, some _, some _, some _, some _] rfl (Nat.le_of_ble_eq_true rfl) rfl ?_
          refine am_q_aload_n rfl rfl ?_
          refine am_q_gr rfl rfl rfl ?_
          refine am_q_iload rfl rfl ?_
          refine am_q_iload_n rfl rfl ?_
          refine am_q_iast rfl rfl (am_ix_nI (show 14 + 3 * S.1 < 836 by omega) (by decide)) rfl ?_
          refine am_q_aload_n rfl rfl ?_
          refine am_q_gr rfl rfl rfl ?_
          refine am_q_iload rfl rfl ?_
          refine am_q_iconst (v := nI 1) rfl rfl ?_
          refine am_q_iadd rfl (nI_add _ _) ?_
          refine am_q_iload_n rfl rfl ?_
          refine am_q_iast rfl rfl (am_ix_nI (show 14 + 3 * S.1 + 1 < 836 by omega) (by decide)) rfl ?_
          refine am_q_aload_n rfl rfl ?_
          refine am_q_gr rfl rfl rfl ?_
          refine am_q_iload rfl rfl ?_
          refine am_q_iconst (v := nI 2) rfl rfl ?_
          refine am_q_iadd rfl (nI_add _ _) ?_
          refine am_q_iload_n rfl rfl ?_
          refine am_q_if_eqB rfl (fun c_78 => ?_) (fun c_78 => ?_)
          · refine am_q_iconst (v := nI 0) rfl rfl ?_
            refine am_q_iast rfl rfl (am_ix_nI (show 14 + 3 * S.1 + 2 < 836 by omega) (by decide)) rfl ?_
            refine am_q_aload_n rfl rfl ?_
            refine am_q_gr rfl rfl rfl ?_
            refine am_q_bipush (v := nI 13) rfl rfl ?_
            refine am_q_dup2ir rfl ?_
            refine am_q_iald rfl rfl (by first | exact am_ix_nI (by omega) (by omega) | rfl) (show _ = nI S.1 from by rw [am_up_ne (by omega), am_up_ne (by omega), am_up_ne (by omega)]; exact hS0.1) ?_
            refine am_q_iconst (v := nI 1) rfl rfl ?_
            refine am_q_iadd rfl (nI_add _ _) ?_
            refine am_q_iast rfl rfl (by first | exact am_ix_nI (by omega) (by omega) | rfl) rfl ?_
            refine am_q_iconst (v := nI 1) rfl rfl ?_
            refine am_q_ireturn rfl rfl rfl ?_
            have hd : seeOk V S (nI k) (nI w1) = true := by unfold seeOk; rw [c_10, c_20, decide_eq_true (by omega)]; rfl
            rw [hd, show seeS V S (nI k) (nI w1) b = seeDo S k w1 b from by unfold seeS; rw [if_pos hd, ik_nI (by omega), ik_nI (by omega)]]
            exact ⟨_, rfl, mSeen_add (by rw [c_78]; rfl) (by omega) ⟨hV0, hW0, hU0, hK0, hS0, hY0⟩, frM_tr (frM_tr (frM_tr (frM_tr (frM_up (by decide)) (frM_up (by decide))) (frM_up (by decide))) (frM_up (by decide))) (frM_up (by decide))⟩
          · refine am_q_iconst (v := nI 1) rfl rfl ?_
            refine am_q_goto rfl ?_
            refine am_q_iast rfl rfl (am_ix_nI (show 14 + 3 * S.1 + 2 < 836 by omega) (by decide)) rfl ?_
            refine am_q_aload_n rfl rfl ?_
            refine am_q_gr rfl rfl rfl ?_
            refine am_q_bipush (v := nI 13) rfl rfl ?_
            refine am_q_dup2ir rfl ?_
            refine am_q_iald rfl rfl (by first | exact am_ix_nI (by omega) (by omega) | rfl) (show _ = nI S.1 from by rw [am_up_ne (by omega), am_up_ne (by omega), am_up_ne (by omega)]; exact hS0.1) ?_
            refine am_q_iconst (v := nI 1) rfl rfl ?_
            refine am_q_iadd rfl (nI_add _ _) ?_
            refine am_q_iast rfl rfl (by first | exact am_ix_nI (by omega) (by omega) | rfl) rfl ?_
            refine am_q_iconst (v := nI 1) rfl rfl ?_
            refine am_q_ireturn rfl rfl rfl ?_
            have hd : seeOk V S (nI k) (nI w1) = true := by unfold seeOk; rw [c_10, c_20, decide_eq_true (by omega)]; rfl
            rw [hd, show seeS V S (nI k) (nI w1) b = seeDo S k w1 b from by unfold seeS; rw [if_pos hd, ik_nI (by omega), ik_nI (by omega)]]
            exact ⟨_, rfl, mSeen_add (by rw [c_78]; rfl) (by omega) ⟨hV0, hW0, hU0, hK0, hS0, hY0⟩, frM_tr (frM_tr (frM_tr (frM_tr (frM_up (by decide)) (frM_up (by decide))) (frM_up (by decide))) (frM_up (by decide))) (frM_up (by decide))⟩
        · refine am_q_iconst (v := nI 0) rfl rfl ?_
          refine am_q_ireturn rfl rfl rfl ?_
          have hd : seeOk V S (nI k) (nI w1) = false := by unfold seeOk; rw [decide_eq_false (by omega), Bool.and_false]
          rw [hd, show seeS V S (nI k) (nI w1) b = S from if_neg (by rw [hd]; exact Bool.false_ne_true)]
          exact ⟨_, rfl, (mR_fr (fr_thr μ) ⟨hV, hW, hU, hK, hS, hY⟩), frM_up (by decide)⟩)
  obtain ⟨r, h1, μ', h2, h3⟩ := key
  exact ⟨μ', by rw [h1, h2], h3⟩

theorem m_count0 (d : Nat) (n : Nat) {V : sVal} {W : sWall} {U : List sWall} {K : Nat → Option (sWall × sSeen)} {S : sSeen} {Y : sYear} {μ : am_M2} (ν : am_N2) (hR : mR μ V W U K S Y) (hO : vOk V) (hI : sI (vN V) (vP V) W.1 W.2.1) (ht : W.2.2 < 2 ^ 20) (tl : Nat) (hTp : μ 133 2 = nI tl) : am_run (d + 4) 301 [.ref 133, .int (nI 0)] (am_hp n μ ν) = some (some (.int (qCount V W U S Y tl (nI 0))), am_hp n (am_up μ 133 0 (nI 0)) ν) := by
  have hR0 := mR_fr (fr_thr μ) hR
  obtain ⟨hV, hW, hU, hK, hS, hY⟩ := hR
  obtain ⟨hV0, hW0, hU0, hK0, hS0, hY0⟩ := hR0
  have h6 := hO.1.1
  have hP8 := hO.1.2.1
  have h8 := sI_8 hO hI
  have hpk := sI_p hI
  refine am_r301 (d := d + 3) (Nat.le_of_ble_eq_true rfl) [some (.ref 133), some (.int (nI 0))] rfl ?_
  refine am_q_aload_n rfl rfl ?_
  refine am_q_iconst (v := nI 0) rfl rfl ?_
  refine am_q_pi rfl rfl rfl (Or.inl rfl) ?_
  refine am_q_iload_n rfl rfl ?_
  refine am_q_tsw (t := 76) rfl (by decide) ?_
  refine am_q_aload_n rfl rfl ?_
  refine am_q_call rfl rfl (m_places _ _ _ hV0) rfl ?_
  refine am_q_ireturn rfl rfl rfl ?_
  rfl

theorem m_count1 (d : Nat) (n : Nat) {V : sVal} {W : sWall} {U : List sWall} {K : Nat → Option (sWall × sSeen)} {S : sSeen} {Y : sYear} {μ : am_M2} (ν : am_N2) (hR : mR μ V W U K S Y) (hO : vOk V) (hI : sI (vN V) (vP V) W.1 W.2.1) (ht : W.2.2 < 2 ^ 20) (tl : Nat) (hTp : μ 133 2 = nI tl) : am_run (d + 4) 301 [.ref 133, .int (nI 1)] (am_hp n μ ν) = some (some (.int (qCount V W U S Y tl (nI 1))), am_hp n (am_up μ 133 0 (nI 0)) ν) := by
  have hR0 := mR_fr (fr_thr μ) hR
  obtain ⟨hV, hW, hU, hK, hS, hY⟩ := hR
  obtain ⟨hV0, hW0, hU0, hK0, hS0, hY0⟩ := hR0
  have h6 := hO.1.1
  have hP8 := hO.1.2.1
  have h8 := sI_8 hO hI
  have hpk := sI_p hI
  refine am_r301 (d := d + 3) (Nat.le_of_ble_eq_true rfl) [some (.ref 133), some (.int (nI 1))] rfl ?_
  refine am_q_aload_n rfl rfl ?_
  refine am_q_iconst (v := nI 0) rfl rfl ?_
  refine am_q_pi rfl rfl rfl (Or.inl rfl) ?_
  refine am_q_iload_n rfl rfl ?_
  refine am_q_tsw (t := 81) rfl (by decide) ?_
  refine am_q_aload_n rfl rfl ?_
  refine am_q_call rfl rfl (m_souls _ _ _ hV0) rfl ?_
  refine am_q_ireturn rfl rfl rfl ?_
  rfl

theorem m_count2 (d : Nat) (n : Nat) {V : sVal} {W : sWall} {U : List sWall} {K : Nat → Option (sWall × sSeen)} {S : sSeen} {Y : sYear} {μ : am_M2} (ν : am_N2) (hR : mR μ V W U K S Y) (hO : vOk V) (hI : sI (vN V) (vP V) W.1 W.2.1) (ht : W.2.2 < 2 ^ 20) (tl : Nat) (hTp : μ 133 2 = nI tl) : am_run (d + 4) 301 [.ref 133, .int (nI 2)] (am_hp n μ ν) = some (some (.int (qCount V W U S Y tl (nI 2))), am_hp n (am_up μ 133 0 (nI 0)) ν) := by
  have hR0 := mR_fr (fr_thr μ) hR
  obtain ⟨hV, hW, hU, hK, hS, hY⟩ := hR
  obtain ⟨hV0, hW0, hU0, hK0, hS0, hY0⟩ := hR0
  have h6 := hO.1.1
  have hP8 := hO.1.2.1
  have h8 := sI_8 hO hI
  have hpk := sI_p hI
  refine am_r301 (d := d + 3) (Nat.le_of_ble_eq_true rfl) [some (.ref 133), some (.int (nI 2))] rfl ?_
  refine am_q_aload_n rfl rfl ?_
  refine am_q_iconst (v := nI 0) rfl rfl ?_
  refine am_q_pi rfl rfl rfl (Or.inl rfl) ?_
  refine am_q_iload_n rfl rfl ?_
  refine am_q_tsw (t := 86) rfl (by decide) ?_
  refine am_q_aload_n rfl rfl ?_
  refine am_q_gr rfl rfl rfl ?_
  refine am_q_iconst (v := nI 2) rfl rfl ?_
  refine am_q_iald rfl rfl (by first | exact am_ix_nI (by omega) (by omega) | rfl) (show _ = nI (vQ V) from hV0.2.2.1) ?_
  refine am_q_ireturn rfl rfl rfl ?_
  rfl

theorem m_count3 (d : Nat) (n : Nat) {V : sVal} {W : sWall} {U : List sWall} {K : Nat → Option (sWall × sSeen)} {S : sSeen} {Y : sYear} {μ : am_M2} (ν : am_N2) (hR : mR μ V W U K S Y) (hO : vOk V) (hI : sI (vN V) (vP V) W.1 W.2.1) (ht : W.2.2 < 2 ^ 20) (tl : Nat) (hTp : μ 133 2 = nI tl) : am_run (d + 4) 301 [.ref 133, .int (nI 3)] (am_hp n μ ν) = some (some (.int (qCount V W U S Y tl (nI 3))), am_hp n (am_up μ 133 0 (nI 0)) ν) := by
  have hR0 := mR_fr (fr_thr μ) hR
  obtain ⟨hV, hW, hU, hK, hS, hY⟩ := hR
  obtain ⟨hV0, hW0, hU0, hK0, hS0, hY0⟩ := hR0
  have h6 := hO.1.1
  have hP8 := hO.1.2.1
  have h8 := sI_8 hO hI
  have hpk := sI_p hI
  refine am_r301 (d := d + 3) (Nat.le_of_ble_eq_true rfl) [some (.ref 133), some (.int (nI 3))] rfl ?_
  refine am_q_aload_n rfl rfl ?_
  refine am_q_iconst (v := nI 0) rfl rfl ?_
  refine am_q_pi rfl rfl rfl (Or.inl rfl) ?_
  refine am_q_iload_n rfl rfl ?_
  refine am_q_tsw (t := 93) rfl (by decide) ?_
  refine am_q_aload_n rfl rfl ?_
  refine am_q_gr rfl rfl rfl ?_
  refine am_q_iconst (v := nI 0) rfl rfl ?_
  refine am_q_iald rfl rfl (by first | exact am_ix_nI (by omega) (by omega) | rfl) (show _ = nI W.2.2 from hW0.1) ?_
  refine am_q_ireturn rfl rfl rfl ?_
  rfl

theorem m_count4 (d : Nat) (n : Nat) {V : sVal} {W : sWall} {U : List sWall} {K : Nat → Option (sWall × sSeen)} {S : sSeen} {Y : sYear} {μ : am_M2} (ν : am_N2) (hR : mR μ V W U K S Y) (hO : vOk V) (hI : sI (vN V) (vP V) W.1 W.2.1) (ht : W.2.2 < 2 ^ 20) (tl : Nat) (hTp : μ 133 2 = nI tl) : am_run (d + 4) 301 [.ref 133, .int (nI 4)] (am_hp n μ ν) = some (some (.int (qCount V W U S Y tl (nI 4))), am_hp n (am_up μ 133 0 (nI 0)) ν) := by
  have hR0 := mR_fr (fr_thr μ) hR
  obtain ⟨hV, hW, hU, hK, hS, hY⟩ := hR
  obtain ⟨hV0, hW0, hU0, hK0, hS0, hY0⟩ := hR0
  have h6 := hO.1.1
  have hP8 := hO.1.2.1
  have h8 := sI_8 hO hI
  have hpk := sI_p hI
  refine am_r301 (d := d + 3) (Nat.le_of_ble_eq_true rfl) [some (.ref 133), some (.int (nI 4))] rfl ?_
  refine am_q_aload_n rfl rfl ?_
  refine am_q_iconst (v := nI 0) rfl rfl ?_
  refine am_q_pi rfl rfl rfl (Or.inl rfl) ?_
  refine am_q_iload_n rfl rfl ?_
  refine am_q_tsw (t := 100) rfl (by decide) ?_
  refine am_q_aload_n rfl rfl ?_
  refine am_q_aload_n rfl rfl ?_
  refine am_q_gr rfl rfl rfl ?_
  refine am_q_iconst (v := nI 0) rfl rfl ?_
  refine am_q_iald rfl rfl (by first | exact am_ix_nI (by omega) (by omega) | rfl) (show _ = nI W.2.2 from hW0.1) ?_
  refine am_q_call rfl rfl (m_frostAt _ n ν hV0 hO W.2.2 (by omega)) rfl ?_
  refine am_q_ireturn rfl rfl rfl ?_
  rfl

theorem m_count5 (d : Nat) (n : Nat) {V : sVal} {W : sWall} {U : List sWall} {K : Nat → Option (sWall × sSeen)} {S : sSeen} {Y : sYear} {μ : am_M2} (ν : am_N2) (hR : mR μ V W U K S Y) (hO : vOk V) (hI : sI (vN V) (vP V) W.1 W.2.1) (ht : W.2.2 < 2 ^ 20) (tl : Nat) (hTp : μ 133 2 = nI tl) : am_run (d + 4) 301 [.ref 133, .int (nI 5)] (am_hp n μ ν) = some (some (.int (qCount V W U S Y tl (nI 5))), am_hp n (am_up μ 133 0 (nI 0)) ν) := by
  have hR0 := mR_fr (fr_thr μ) hR
  obtain ⟨hV, hW, hU, hK, hS, hY⟩ := hR
  obtain ⟨hV0, hW0, hU0, hK0, hS0, hY0⟩ := hR0
  have h6 := hO.1.1
  have hP8 := hO.1.2.1
  have h8 := sI_8 hO hI
  have hpk := sI_p hI
  refine am_r301 (d := d + 3) (Nat.le_of_ble_eq_true rfl) [some (.ref 133), some (.int (nI 5))] rfl ?_
  refine am_q_aload_n rfl rfl ?_
  refine am_q_iconst (v := nI 0) rfl rfl ?_
  refine am_q_pi rfl rfl rfl (Or.inl rfl) ?_
  refine am_q_iload_n rfl rfl ?_
  refine am_q_tsw (t := 111) rfl (by decide) ?_
  refine am_q_aload_n rfl rfl ?_
  refine am_q_iconst (v := nI 0) rfl rfl ?_
  refine am_q_iconst (v := nI 0) rfl rfl ?_
  refine am_q_call rfl rfl (m_who _ n ν hV0 hO 0 (by decide) hW0 hI 0 (by decide)) rfl ?_
  refine am_q_ireturn rfl rfl rfl ?_
  rfl

theorem m_count6 (d : Nat) (n : Nat) {V : sVal} {W : sWall} {U : List sWall} {K : Nat → Option (sWall × sSeen)} {S : sSeen} {Y : sYear} {μ : am_M2} (ν : am_N2) (hR : mR μ V W U K S Y) (hO : vOk V) (hI : sI (vN V) (vP V) W.1 W.2.1) (ht : W.2.2 < 2 ^ 20) (tl : Nat) (hTp : μ 133 2 = nI tl) : am_run (d + 4) 301 [.ref 133, .int (nI 6)] (am_hp n μ ν) = some (some (.int (qCount V W U S Y tl (nI 6))), am_hp n (am_up μ 133 0 (nI 0)) ν) := by
  have hR0 := mR_fr (fr_thr μ) hR
  obtain ⟨hV, hW, hU, hK, hS, hY⟩ := hR
  obtain ⟨hV0, hW0, hU0, hK0, hS0, hY0⟩ := hR0
  have h6 := hO.1.1
  have hP8 := hO.1.2.1
  have h8 := sI_8 hO hI
  have hpk := sI_p hI
  refine am_r301 (d := d + 3) (Nat.le_of_ble_eq_true rfl) [some (.ref 133), some (.int (nI 6))] rfl ?_
  refine am_q_aload_n rfl rfl ?_
  refine am_q_iconst (v := nI 0) rfl rfl ?_
  refine am_q_pi rfl rfl rfl (Or.inl rfl) ?_
  refine am_q_iload_n rfl rfl ?_
  refine am_q_tsw (t := 118) rfl (by decide) ?_
  refine am_q_aload_n rfl rfl ?_
  refine am_q_iconst (v := nI 0) rfl rfl ?_
  refine am_q_iconst (v := nI 1) rfl rfl ?_
  refine am_q_call rfl rfl (m_who _ n ν hV0 hO 0 (by decide) hW0 hI 1 (by decide)) rfl ?_
  refine am_q_ireturn rfl rfl rfl ?_
  rfl

theorem m_count7 (d : Nat) (n : Nat) {V : sVal} {W : sWall} {U : List sWall} {K : Nat → Option (sWall × sSeen)} {S : sSeen} {Y : sYear} {μ : am_M2} (ν : am_N2) (hR : mR μ V W U K S Y) (hO : vOk V) (hI : sI (vN V) (vP V) W.1 W.2.1) (ht : W.2.2 < 2 ^ 20) (tl : Nat) (hTp : μ 133 2 = nI tl) : am_run (d + 4) 301 [.ref 133, .int (nI 7)] (am_hp n μ ν) = some (some (.int (qCount V W U S Y tl (nI 7))), am_hp n (am_up μ 133 0 (nI 0)) ν) := by
  have hR0 := mR_fr (fr_thr μ) hR
  obtain ⟨hV, hW, hU, hK, hS, hY⟩ := hR
  obtain ⟨hV0, hW0, hU0, hK0, hS0, hY0⟩ := hR0
  have h6 := hO.1.1
  have hP8 := hO.1.2.1
  have h8 := sI_8 hO hI
  have hpk := sI_p hI
  refine am_r301 (d := d + 3) (Nat.le_of_ble_eq_true rfl) [some (.ref 133), some (.int (nI 7))] rfl ?_
  refine am_q_aload_n rfl rfl ?_
  refine am_q_iconst (v := nI 0) rfl rfl ?_
  refine am_q_pi rfl rfl rfl (Or.inl rfl) ?_
  refine am_q_iload_n rfl rfl ?_
  refine am_q_tsw (t := 125) rfl (by decide) ?_
  refine am_q_aload_n rfl rfl ?_
  refine am_q_iconst (v := nI 0) rfl rfl ?_
  refine am_q_iconst (v := nI 2) rfl rfl ?_
  refine am_q_call rfl rfl (m_who _ n ν hV0 hO 0 (by decide) hW0 hI 2 (by decide)) rfl ?_
  refine am_q_ireturn rfl rfl rfl ?_
  rfl

theorem m_count8 (d : Nat) (n : Nat) {V : sVal} {W : sWall} {U : List sWall} {K : Nat → Option (sWall × sSeen)} {S : sSeen} {Y : sYear} {μ : am_M2} (ν : am_N2) (hR : mR μ V W U K S Y) (hO : vOk V) (hI : sI (vN V) (vP V) W.1 W.2.1) (ht : W.2.2 < 2 ^ 20) (tl : Nat) (hTp : μ 133 2 = nI tl) : am_run (d + 4) 301 [.ref 133, .int (nI 8)] (am_hp n μ ν) = some (some (.int (qCount V W U S Y tl (nI 8))), am_hp n (am_up μ 133 0 (nI 0)) ν) := by
  have hR0 := mR_fr (fr_thr μ) hR
  obtain ⟨hV, hW, hU, hK, hS, hY⟩ := hR
  obtain ⟨hV0, hW0, hU0, hK0, hS0, hY0⟩ := hR0
  have h6 := hO.1.1
  have hP8 := hO.1.2.1
  have h8 := sI_8 hO hI
  have hpk := sI_p hI
  refine am_r301 (d := d + 3) (Nat.le_of_ble_eq_true rfl) [some (.ref 133), some (.int (nI 8))] rfl ?_
  refine am_q_aload_n rfl rfl ?_
  refine am_q_iconst (v := nI 0) rfl rfl ?_
  refine am_q_pi rfl rfl rfl (Or.inl rfl) ?_
  refine am_q_iload_n rfl rfl ?_
  refine am_q_tsw (t := 132) rfl (by decide) ?_
  refine am_q_aload_n rfl rfl ?_
  refine am_q_iconst (v := nI 0) rfl rfl ?_
  refine am_q_iconst (v := nI 3) rfl rfl ?_
  refine am_q_call rfl rfl (m_who _ n ν hV0 hO 0 (by decide) hW0 hI 3 (by decide)) rfl ?_
  refine am_q_ireturn rfl rfl rfl ?_
  rfl

theorem m_count9 (d : Nat) (n : Nat) {V : sVal} {W : sWall} {U : List sWall} {K : Nat → Option (sWall × sSeen)} {S : sSeen} {Y : sYear} {μ : am_M2} (ν : am_N2) (hR : mR μ V W U K S Y) (hO : vOk V) (hI : sI (vN V) (vP V) W.1 W.2.1) (ht : W.2.2 < 2 ^ 20) (tl : Nat) (hTp : μ 133 2 = nI tl) : am_run (d + 4) 301 [.ref 133, .int (nI 9)] (am_hp n μ ν) = some (some (.int (qCount V W U S Y tl (nI 9))), am_hp n (am_up μ 133 0 (nI 0)) ν) := by
  have hR0 := mR_fr (fr_thr μ) hR
  obtain ⟨hV, hW, hU, hK, hS, hY⟩ := hR
  obtain ⟨hV0, hW0, hU0, hK0, hS0, hY0⟩ := hR0
  have h6 := hO.1.1
  have hP8 := hO.1.2.1
  have h8 := sI_8 hO hI
  have hpk := sI_p hI
  refine am_r301 (d := d + 3) (Nat.le_of_ble_eq_true rfl) [some (.ref 133), some (.int (nI 9))] rfl ?_
  refine am_q_aload_n rfl rfl ?_
  refine am_q_iconst (v := nI 0) rfl rfl ?_
  refine am_q_pi rfl rfl rfl (Or.inl rfl) ?_
  refine am_q_iload_n rfl rfl ?_
  refine am_q_tsw (t := 139) rfl (by decide) ?_
  refine am_q_aload_n rfl rfl ?_
  refine am_q_iconst (v := nI 0) rfl rfl ?_
  refine am_q_iconst (v := nI 4) rfl rfl ?_
  refine am_q_call rfl rfl (m_who _ n ν hV0 hO 0 (by decide) hW0 hI 4 (by decide)) rfl ?_
  refine am_q_ireturn rfl rfl rfl ?_
  rfl

theorem m_count10 (d : Nat) (n : Nat) {V : sVal} {W : sWall} {U : List sWall} {K : Nat → Option (sWall × sSeen)} {S : sSeen} {Y : sYear} {μ : am_M2} (ν : am_N2) (hR : mR μ V W U K S Y) (hO : vOk V) (hI : sI (vN V) (vP V) W.1 W.2.1) (ht : W.2.2 < 2 ^ 20) (tl : Nat) (hTp : μ 133 2 = nI tl) : am_run (d + 4) 301 [.ref 133, .int (nI 10)] (am_hp n μ ν) = some (some (.int (qCount V W U S Y tl (nI 10))), am_hp n (am_up μ 133 0 (nI 0)) ν) := by
  have hR0 := mR_fr (fr_thr μ) hR
  obtain ⟨hV, hW, hU, hK, hS, hY⟩ := hR
  obtain ⟨hV0, hW0, hU0, hK0, hS0, hY0⟩ := hR0
  have h6 := hO.1.1
  have hP8 := hO.1.2.1
  have h8 := sI_8 hO hI
  have hpk := sI_p hI
  refine am_r301 (d := d + 3) (Nat.le_of_ble_eq_true rfl) [some (.ref 133), some (.int (nI 10))] rfl ?_
  refine am_q_aload_n rfl rfl ?_
  refine am_q_iconst (v := nI 0) rfl rfl ?_
  refine am_q_pi rfl rfl rfl (Or.inl rfl) ?_
  refine am_q_iload_n rfl rfl ?_
  refine am_q_tsw (t := 146) rfl (by decide) ?_
  refine am_q_aload_n rfl rfl ?_
  refine am_q_gr rfl rfl rfl ?_
  refine am_q_iconst (v := nI 0) rfl rfl ?_
  refine am_q_iald rfl rfl (by first | exact am_ix_nI (by omega) (by omega) | rfl) (show _ = nI Y.1 from hY0.1) ?_
  refine am_q_ireturn rfl rfl rfl ?_
  rfl

theorem m_count11 (d : Nat) (n : Nat) {V : sVal} {W : sWall} {U : List sWall} {K : Nat → Option (sWall × sSeen)} {S : sSeen} {Y : sYear} {μ : am_M2} (ν : am_N2) (hR : mR μ V W U K S Y) (hO : vOk V) (hI : sI (vN V) (vP V) W.1 W.2.1) (ht : W.2.2 < 2 ^ 20) (tl : Nat) (hTp : μ 133 2 = nI tl) : am_run (d + 4) 301 [.ref 133, .int (nI 11)] (am_hp n μ ν) = some (some (.int (qCount V W U S Y tl (nI 11))), am_hp n (am_up μ 133 0 (nI 0)) ν) := by
  have hR0 := mR_fr (fr_thr μ) hR
  obtain ⟨hV, hW, hU, hK, hS, hY⟩ := hR
  obtain ⟨hV0, hW0, hU0, hK0, hS0, hY0⟩ := hR0
  have h6 := hO.1.1
  have hP8 := hO.1.2.1
  have h8 := sI_8 hO hI
  have hpk := sI_p hI
  refine am_r301 (d := d + 3) (Nat.le_of_ble_eq_true rfl) [some (.ref 133), some (.int (nI 11))] rfl ?_
  refine am_q_aload_n rfl rfl ?_
  refine am_q_iconst (v := nI 0) rfl rfl ?_
  refine am_q_pi rfl rfl rfl (Or.inl rfl) ?_
  refine am_q_iload_n rfl rfl ?_
  refine am_q_tsw (t := 153) rfl (by decide) ?_
  refine am_q_aload_n rfl rfl ?_
  refine am_q_gr rfl rfl rfl ?_
  refine am_q_bipush (v := nI 13) rfl rfl ?_
  refine am_q_iald rfl rfl (by first | exact am_ix_nI (by omega) (by omega) | rfl) (show _ = nI S.1 from hS0.1) ?_
  refine am_q_ireturn rfl rfl rfl ?_
  rfl

theorem m_count12 (d : Nat) (n : Nat) {V : sVal} {W : sWall} {U : List sWall} {K : Nat → Option (sWall × sSeen)} {S : sSeen} {Y : sYear} {μ : am_M2} (ν : am_N2) (hR : mR μ V W U K S Y) (hO : vOk V) (hI : sI (vN V) (vP V) W.1 W.2.1) (ht : W.2.2 < 2 ^ 20) (tl : Nat) (hTp : μ 133 2 = nI tl) : am_run (d + 4) 301 [.ref 133, .int (nI 12)] (am_hp n μ ν) = some (some (.int (qCount V W U S Y tl (nI 12))), am_hp n (am_up μ 133 0 (nI 0)) ν) := by
  have hR0 := mR_fr (fr_thr μ) hR
  obtain ⟨hV, hW, hU, hK, hS, hY⟩ := hR
  obtain ⟨hV0, hW0, hU0, hK0, hS0, hY0⟩ := hR0
  have h6 := hO.1.1
  have hP8 := hO.1.2.1
  have h8 := sI_8 hO hI
  have hpk := sI_p hI
  refine am_r301 (d := d + 3) (Nat.le_of_ble_eq_true rfl) [some (.ref 133), some (.int (nI 12))] rfl ?_
  refine am_q_aload_n rfl rfl ?_
  refine am_q_iconst (v := nI 0) rfl rfl ?_
  refine am_q_pi rfl rfl rfl (Or.inl rfl) ?_
  refine am_q_iload_n rfl rfl ?_
  refine am_q_tsw (t := 161) rfl (by decide) ?_
  refine am_q_aload_n rfl rfl ?_
  refine am_q_gi rfl rfl rfl (show _ = nI U.length from hU0.1) ?_
  refine am_q_ireturn rfl rfl rfl ?_
  rfl

theorem m_count13 (d : Nat) (n : Nat) {V : sVal} {W : sWall} {U : List sWall} {K : Nat → Option (sWall × sSeen)} {S : sSeen} {Y : sYear} {μ : am_M2} (ν : am_N2) (hR : mR μ V W U K S Y) (hO : vOk V) (hI : sI (vN V) (vP V) W.1 W.2.1) (ht : W.2.2 < 2 ^ 20) (tl : Nat) (hTp : μ 133 2 = nI tl) : am_run (d + 4) 301 [.ref 133, .int (nI 13)] (am_hp n μ ν) = some (some (.int (qCount V W U S Y tl (nI 13))), am_hp n (am_up μ 133 0 (nI 0)) ν) := by
  have hR0 := mR_fr (fr_thr μ) hR
  obtain ⟨hV, hW, hU, hK, hS, hY⟩ := hR
  obtain ⟨hV0, hW0, hU0, hK0, hS0, hY0⟩ := hR0
  have h6 := hO.1.1
  have hP8 := hO.1.2.1
  have h8 := sI_8 hO hI
  have hpk := sI_p hI
  refine am_r301 (d := d + 3) (Nat.le_of_ble_eq_true rfl) [some (.ref 133), some (.int (nI 13))] rfl ?_
  refine am_q_aload_n rfl rfl ?_
  refine am_q_iconst (v := nI 0) rfl rfl ?_
  refine am_q_pi rfl rfl rfl (Or.inl rfl) ?_
  refine am_q_iload_n rfl rfl ?_
  refine am_q_tsw (t := 166) rfl (by decide) ?_
  refine am_q_aload_n rfl rfl ?_
  refine am_q_gi rfl rfl rfl (show am_up μ 133 0 (nI 0) 133 2 = nI tl from hTp) ?_
  refine am_q_ireturn rfl rfl rfl ?_
  rfl

theorem m_countN (d : Nat) (w : Int32) (n : Nat) {V : sVal} {W : sWall} {U : List sWall} {K : Nat → Option (sWall × sSeen)} {S : sSeen} {Y : sYear} {μ : am_M2} (ν : am_N2) (hR : mR μ V W U K S Y) (hO : vOk V) (hI : sI (vN V) (vP V) W.1 W.2.1) (ht : W.2.2 < 2 ^ 20) (tl : Nat) (hTp : μ 133 2 = nI tl) (hw : am_ix w 14 = none) : am_run (d + 4) 301 [.ref 133, .int w] (am_hp n μ ν) = some (some (.int (qCount V W U S Y tl w)), am_hp n (am_up μ 133 0 (nI 0)) ν) := by
  have hR0 := mR_fr (fr_thr μ) hR
  obtain ⟨hV, hW, hU, hK, hS, hY⟩ := hR
  obtain ⟨hV0, hW0, hU0, hK0, hS0, hY0⟩ := hR0
  have h6 := hO.1.1
  have hP8 := hO.1.2.1
  have h8 := sI_8 hO hI
  have hpk := sI_p hI
  refine am_r301 (d := d + 3) (Nat.le_of_ble_eq_true rfl) [some (.ref 133), some (.int w)] rfl ?_
  refine am_q_aload_n rfl rfl ?_
  refine am_q_iconst (v := nI 0) rfl rfl ?_
  refine am_q_pi rfl rfl rfl (Or.inl rfl) ?_
  refine am_q_iload_n rfl rfl ?_
  refine am_q_tsw (t := 171) rfl (sw_none hw rfl (by decide) rfl) ?_
  refine am_q_iconst (v := -1) rfl rfl ?_
  refine am_q_ireturn rfl rfl rfl ?_
  unfold qCount; rw [hw]

theorem m_count (d : Nat) (w : Int32) (n : Nat) {V : sVal} {W : sWall} {U : List sWall} {K : Nat → Option (sWall × sSeen)} {S : sSeen} {Y : sYear} {μ : am_M2} (ν : am_N2) (hR : mR μ V W U K S Y) (hO : vOk V) (hI : sI (vN V) (vP V) W.1 W.2.1) (ht : W.2.2 < 2 ^ 20) (tl : Nat) (hTp : μ 133 2 = nI tl) : am_run (d + 4) 301 [.ref 133, .int w] (am_hp n μ ν) = some (some (.int (qCount V W U S Y tl w)), am_hp n (am_up μ 133 0 (nI 0)) ν) := by
  rcases sn_ix w (N := 14) (by decide) with ⟨h, -⟩ | ⟨j, h1, rfl, -⟩
  · exact m_countN d w n ν hR hO hI ht tl hTp h
  · rcases (show j = 0 ∨ j = 1 ∨ j = 2 ∨ j = 3 ∨ j = 4 ∨ j = 5 ∨ j = 6 ∨ j = 7 ∨ j = 8 ∨ j = 9 ∨ j = 10 ∨ j = 11 ∨ j = 12 ∨ j = 13 by omega) with rfl | rfl | rfl | rfl | rfl | rfl | rfl | rfl | rfl | rfl | rfl | rfl | rfl | rfl
    · exact m_count0 d n ν hR hO hI ht tl hTp
    · exact m_count1 d n ν hR hO hI ht tl hTp
    · exact m_count2 d n ν hR hO hI ht tl hTp
    · exact m_count3 d n ν hR hO hI ht tl hTp
    · exact m_count4 d n ν hR hO hI ht tl hTp
    · exact m_count5 d n ν hR hO hI ht tl hTp
    · exact m_count6 d n ν hR hO hI ht tl hTp
    · exact m_count7 d n ν hR hO hI ht tl hTp
    · exact m_count8 d n ν hR hO hI ht tl hTp
    · exact m_count9 d n ν hR hO hI ht tl hTp
    · exact m_count10 d n ν hR hO hI ht tl hTp
    · exact m_count11 d n ν hR hO hI ht tl hTp
    · exact m_count12 d n ν hR hO hI ht tl hTp
    · exact m_count13 d n ν hR hO hI ht tl hTp