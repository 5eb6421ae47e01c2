def isKd (X : tTp) (i : Nat) : Option Nat := if isWd X i 11 = true then some 0 else if isWd X i 12 = true then some 1 else if isWd X i 13 = true then some 2 else if isWd X i 14 = true then some 3 else none
theorem isKd_s {X : tTp} {i k : Nat} (h : isKd X i = some k) : tkc X i = 139 + k ∧ k ≤ 3 := by
  unfold isKd at h
  split at h
  · rename_i c; cases h; exact ⟨(tkc_w (r := 11) (by decide)).mpr c, by decide⟩
  · split at h
    · rename_i c; cases h; exact ⟨(tkc_w (r := 12) (by decide)).mpr c, by decide⟩
    · split at h
      · rename_i c; cases h; exact ⟨(tkc_w (r := 13) (by decide)).mpr c, by decide⟩
      · split at h
        · rename_i c; cases h; exact ⟨(tkc_w (r := 14) (by decide)).mpr c, by decide⟩
        · cases h
theorem isKd_n {X : tTp} {i : Nat} (h : isKd X i = none) : tkc X i < 139 ∨ 142 < tkc X i := by
  by_cases z : tkc X i < 139 ∨ 142 < tkc X i
  · exact z
  · unfold isKd at h
    rcases (show tkc X i = 128 + 11 ∨ tkc X i = 128 + 12 ∨ tkc X i = 128 + 13 ∨ tkc X i = 128 + 14 by omega) with e | e | e | e
    · rw [if_pos ((tkc_w (by decide)).mp e)] at h; cases h
    · rw [(tkc_w (r := 12) (by decide)).mp e] at h; repeat' split at h
      all_goals first | (exact absurd rfl ‹¬ true = true›) | (cases h; done)
    · rw [(tkc_w (r := 13) (by decide)).mp e] at h; repeat' split at h
      all_goals first | (exact absurd rfl ‹¬ true = true›) | (cases h; done)
    · rw [(tkc_w (r := 14) (by decide)).mp e] at h; repeat' split at h
      all_goals first | (exact absurd rfl ‹¬ true = true›) | (cases h; done)
def dS (D : dft) (w k s t : Nat) : dft := ((vN D.1 + 1, vP D.1, vQ D.1, vF D.1, fup (vK D.1) (vN D.1) k, fup (vS D.1) (vN D.1) s, fup (vD D.1) (vN D.1) t, vH D.1, vR D.1, vL D.1), fup D.2.1 (vN D.1) w, D.2.2)
def pSoul (X : tTp) (i : Nat) (D : dft) : Nat ⊕ (Nat × dft) := if 6 ≤ vN D.1 then .inl (wr X i 5) else if isNm X (i + 1) = false then .inl (wr X (i + 1) 1) else if (fnd D.2.1 (vN D.1) (wd X (i + 1))).isSome = true then .inl (wr X (i + 1) 3) else (match isKd X (i + 2) with
  | none => .inl (wr X (i + 2) 1)
  | some k => if isWd X (i + 3) 2 = false then .inl (wr X (i + 3) 1) else (match pNum X (i + 4) 0 20 with
    | .inl c => .inl c
    | .inr s => if isWd X (i + 5) 3 = false then .inl (wr X (i + 5) 1) else (match pNum X (i + 6) 0 60 with
      | .inl c => .inl c
      | .inr t => .inr (i + 7, dS D (wd X (i + 1)) k s t))))
theorem s_nn1 (d : Nat) (n i s : Nat) {X : tTp} {D : dft} {μ : am_M2} (ν : am_N2) (hX : tpOk X) (hT : xTk μ ν X i) (hL : xLg ν) (hD : xDf μ ν D) (hO : dOk D) (hs : s = vN D.1) (hs6 : s < 6) (hm : isNm X i = false) : am_run (d + 6) 35 [.ref 16, .ref 3, .int (nI s)] (am_hp n μ ν) = some (some (.int (sB false)), am_hp n (am_up μ 3 7 (nI (wr X i 1))) ν) := by
  have ht := tkc_lt X i
  refine am_r35 (d := d + 5) (Nat.le_of_ble_eq_true rfl) [some (.ref 16), some (.ref 3), some (.int (nI s))] rfl ?_
  refine am_q_aload_n rfl rfl ?_
  refine am_q_gi rfl rfl rfl hT.2.2.2.1 ?_
  refine am_q_iconst (v := nI 2) rfl rfl ?_
  refine am_q_ieqN rfl (by omega) (by omega) (fun c_5 => absurd (hm.symm.trans (tkc_n.mp c_5)) Bool.false_ne_true) (fun c_5 => ?_)
  refine am_q_aload_n rfl rfl ?_
  refine am_q_iconst (v := nI 1) rfl rfl ?_
  refine am_q_call rfl rfl (s_wrong _ 1 n i ν hT.2.2.1) rfl ?_
  refine am_q_ireturn rfl rfl (sB_ok _) ?_
  rfl

theorem s_nn3 (d : Nat) (n i s : Nat) {X : tTp} {D : dft} {μ : am_M2} (ν : am_N2) (hX : tpOk X) (hT : xTk μ ν X i) (hL : xLg ν) (hD : xDf μ ν D) (hO : dOk D) (hs : s = vN D.1) (hs6 : s < 6) (hm : isNm X i = true) (hf : (fnd D.2.1 (vN D.1) (wd X i)).isSome = true) : am_run (d + 6) 35 [.ref 16, .ref 3, .int (nI s)] (am_hp n μ ν) = some (some (.int (sB false)), am_hp n (am_up μ 3 7 (nI (wr X i 3))) ν) := by
  have ht := tkc_lt X i
  have h2 := nm_k hm
  have hw := wd_63 hX h2
  refine am_r35 (d := d + 5) (Nat.le_of_ble_eq_true rfl) [some (.ref 16), some (.ref 3), some (.int (nI s))] rfl ?_
  refine am_q_aload_n rfl rfl ?_
  refine am_q_gi rfl rfl rfl hT.2.2.2.1 ?_
  refine am_q_iconst (v := nI 2) rfl rfl ?_
  refine am_q_ieqN rfl (by omega) (by omega) (fun c_5 => ?_) (fun c_5 => absurd (tkc_n.mpr hm) c_5)
  refine am_q_aload_n rfl rfl ?_
  refine am_q_aload_n rfl rfl ?_
  refine am_q_gl rfl rfl rfl (hT.2.2.2.2.2 h2) ?_
  refine am_q_call rfl rfl (s_soulNamed16 _ n (vN D.1) (wd X i) D.2.1 μ ν hD.1.2.1 hO.1.1 hw (fun s hs => ⟨(hD.2.1 s hs).2.2.2.2, (hO.2.1 s hs).2.2.2⟩)) rfl ?_
  refine am_q_iconst (v := -1) rfl rfl ?_
  refine am_q_icmp_eq rfl (fun c_23 => by rw [pl_none c_23 (fun k hk => by have := (fnd_lt hk).1; have := hO.1.1; omega)] at hf; cases hf) (fun c_23 => ?_)
  refine am_q_aload_n rfl rfl ?_
  refine am_q_iconst (v := nI 3) rfl rfl ?_
  refine am_q_call rfl rfl (s_wrong _ 3 n i ν hT.2.2.1) rfl ?_
  refine am_q_ireturn rfl rfl (sB_ok _) ?_
  rfl

theorem s_nn0 (d : Nat) (n i s : Nat) {X : tTp} {D : dft} {μ : am_M2} (ν : am_N2) (hX : tpOk X) (hT : xTk μ ν X i) (hL : xLg ν) (hD : xDf μ ν D) (hO : dOk D) (hs : s = vN D.1) (hs6 : s < 6) (hm : isNm X i = true) (hf : (fnd D.2.1 (vN D.1) (wd X i)).isSome = false) : ∃ (μ' : am_M2) (ν' : am_N2), am_run (d + 6) 35 [.ref 16, .ref 3, .int (nI s)] (am_hp n μ ν) = some (some (.int (sB true)), am_hp n μ' ν') ∧ xTk μ' ν' X (i + 1) ∧ frK μ μ' ∧ frKL (am_upL ν 17 s (lN (wd X i))) ν' := by
  have ht := tkc_lt X i
  have h2 := nm_k hm
  have hw := wd_63 hX h2
  have key : ∃ r, am_run (d + 6) 35 [.ref 16, .ref 3, .int (nI s)] (am_hp n μ ν) = some r ∧ ∃ (μ' : am_M2) (ν' : am_N2), r = (some (.int (sB true)), am_hp n μ' ν') ∧ xTk μ' ν' X (i + 1) ∧ frK μ μ' ∧ frKL (am_upL ν 17 s (lN (wd X i))) ν' := am_run_wE (k := 35) (d := d + 5) rfl rfl (Nat.le_of_ble_eq_true rfl) [some (.ref 16), some (.ref 3), some (.int (nI s))] rfl (by
    refine am_q_aload_n rfl rfl ?_
    refine am_q_gi rfl rfl rfl hT.2.2.2.1 ?_
    refine am_q_iconst (v := nI 2) rfl rfl ?_
    refine am_q_ieqN rfl (by omega) (by omega) (fun c_5 => ?_) (fun c_5 => absurd (tkc_n.mpr hm) c_5)
    refine am_q_aload_n rfl rfl ?_
    refine am_q_aload_n rfl rfl ?_
    refine am_q_gl rfl rfl rfl (hT.2.2.2.2.2 h2) ?_
    refine am_q_call rfl rfl (s_soulNamed16 _ n (vN D.1) (wd X i) D.2.1 μ ν hD.1.2.1 hO.1.1 hw (fun s hs => ⟨(hD.2.1 s hs).2.2.2.2, (hO.2.1 s hs).2.2.2⟩)) rfl ?_
    refine am_q_iconst (v := -1) rfl rfl ?_
    refine am_q_icmp_eq rfl (fun c_23 => ?_) (fun c_23 => by obtain ⟨k, hk⟩ := pl_some c_23; rw [hk] at hf; cases hf)
    refine am_q_aload_n rfl rfl ?_
    refine am_q_gr rfl rfl rfl ?_
    refine am_q_iload_n rfl rfl ?_
    refine am_q_aload_n rfl rfl ?_
    refine am_q_gl rfl rfl rfl (hT.2.2.2.2.2 h2) ?_
    refine am_q_last rfl rfl (by first | exact am_ix_nI (by omega) (by omega) | rfl) ?_
    refine am_q_aload_n rfl rfl ?_
    obtain ⟨μ2, ν2, hc2, hT2, hf2, hl2⟩ := s_step _ n (i + 1) (am_upL ν 17 s (lN (wd X i))) hX hT.1 hT.2.1 (fun r hr => (show (am_upL ν 17 s (lN (wd X i))) 1 r = ν 1 r from rfl).trans (hL r hr))
    refine am_q_call rfl rfl (hc2) rfl ?_
    refine am_q_iconst (v := nI 1) rfl rfl ?_
    refine am_q_ireturn rfl rfl rfl ?_
    exact ⟨_, _, rfl, hT2, hf2, hl2⟩)
  obtain ⟨r, h1, μ', ν', h2, h3⟩ := key
  exact ⟨μ', ν', by rw [h1, h2], h3⟩

theorem s_rk0 (d : Nat) (n i s : Nat) {X : tTp} {μ : am_M2} (ν : am_N2) (hX : tpOk X) (hT : xTk μ ν X i) (hL : xLg ν) (hs6 : s < 6) (h : isKd X i = none) : am_run (d + 6) 37 [.ref 16, .ref 3, .int (nI s)] (am_hp n μ ν) = some (some (.int (sB false)), am_hp n (am_up μ 3 7 (nI (wr X i 1))) ν) := by
  have ht := tkc_lt X i
  have hz := isKd_n h
  refine am_r37 (d := d + 5) (Nat.le_of_ble_eq_true rfl) [some (.ref 16), some (.ref 3), some (.int (nI s))] rfl ?_
  refine am_q_aload_n rfl rfl ?_
  refine am_q_gi rfl rfl rfl hT.2.2.2.1 ?_
  refine am_q_sipush (v := nI 139) rfl rfl ?_
  refine am_q_iltN rfl (by omega) (by omega) (fun c_7 => ?_) (fun c_7 => ?_)
  · refine am_q_aload_n rfl rfl ?_
    refine am_q_iconst (v := nI 1) rfl rfl ?_
    refine am_q_call rfl rfl (s_wrong _ 1 n i ν hT.2.2.1) rfl ?_
    refine am_q_ireturn rfl rfl (sB_ok _) ?_
    rfl
  · refine am_q_aload_n rfl rfl ?_
    refine am_q_gi rfl rfl rfl hT.2.2.2.1 ?_
    refine am_q_sipush (v := nI 142) rfl rfl ?_
    refine am_q_ileN rfl (by omega) (by omega) (fun c_17 => absurd c_17 (by omega)) (fun c_17 => ?_)
    refine am_q_aload_n rfl rfl ?_
    refine am_q_iconst (v := nI 1) rfl rfl ?_
    refine am_q_call rfl rfl (s_wrong _ 1 n i ν hT.2.2.1) rfl ?_
    refine am_q_ireturn rfl rfl (sB_ok _) ?_
    rfl

theorem s_rk1 (d : Nat) (n i s : Nat) {X : tTp} {μ : am_M2} (ν : am_N2) (hX : tpOk X) (hT : xTk μ ν X i) (hL : xLg ν) (hs6 : s < 6) (k : Nat) (h : isKd X i = some k) : ∃ (μ' : am_M2) (ν' : am_N2), am_run (d + 6) 37 [.ref 16, .ref 3, .int (nI s)] (am_hp n μ ν) = some (some (.int (sB true)), am_hp n μ' ν') ∧ xTk μ' ν' X (i + 1) ∧ frK (am_up μ 18 s (nI k)) μ' ∧ frKL ν ν' := by
  have ht := tkc_lt X i
  obtain ⟨hz, hk3⟩ := isKd_s h
  have key : ∃ r, am_run (d + 6) 37 [.ref 16, .ref 3, .int (nI s)] (am_hp n μ ν) = some r ∧ ∃ (μ' : am_M2) (ν' : am_N2), r = (some (.int (sB true)), am_hp n μ' ν') ∧ xTk μ' ν' X (i + 1) ∧ frK (am_up μ 18 s (nI k)) μ' ∧ frKL ν ν' := am_run_wE (k := 37) (d := d + 5) rfl rfl (Nat.le_of_ble_eq_true rfl) [some (.ref 16), some (.ref 3), some (.int (nI s))] rfl (by
    refine am_q_aload_n rfl rfl ?_
    refine am_q_gi rfl rfl rfl hT.2.2.2.1 ?_
    refine am_q_sipush (v := nI 139) rfl rfl ?_
    refine am_q_iltN rfl (by omega) (by omega) (fun c_7 => absurd c_7 (by omega)) (fun c_7 => ?_)
    refine am_q_aload_n rfl rfl ?_
    refine am_q_gi rfl rfl rfl hT.2.2.2.1 ?_
    refine am_q_sipush (v := nI 142) rfl rfl ?_
    refine am_q_ileN rfl (by omega) (by omega) (fun c_17 => ?_) (fun c_17 => absurd c_17 (by omega))
    refine am_q_aload_n rfl rfl ?_
    refine am_q_gr rfl rfl rfl ?_
    refine am_q_iload_n rfl rfl ?_
    refine am_q_aload_n rfl rfl ?_
    refine am_q_gi rfl rfl rfl hT.2.2.2.1 ?_
    refine am_q_sipush (v := nI 139) rfl rfl ?_
    refine am_q_isub rfl (show _ = nI k from (pk_sub (by omega)).trans (by rw [show tkc X i - 139 = k by omega])) ?_
    refine am_q_iast rfl rfl (by first | exact am_ix_nI (by omega) (by omega) | rfl) rfl ?_
    refine am_q_aload_n rfl rfl ?_
    obtain ⟨μ2, ν2, hc2, hT2, hf2, hl2⟩ := s_step _ n (i + 1) (μ := am_up μ 18 s (nI k)) ν hX ⟨(am_up_ne (by omega)).trans hT.1.1, fun j hj => (am_up_ne (by omega)).trans (hT.1.2 j hj)⟩ ((am_up_ne (by omega)).trans hT.2.1) hL
    refine am_q_call rfl rfl (hc2) rfl ?_
    refine am_q_iconst (v := nI 1) rfl rfl ?_
    refine am_q_ireturn rfl rfl rfl ?_
    exact ⟨_, _, rfl, hT2, hf2, hl2⟩)
  obtain ⟨r, h1, μ', ν', h2, h3⟩ := key
  exact ⟨μ', ν', by rw [h1, h2], h3⟩

theorem s_wt0 (d : Nat) (s : Nat) (h : am_H) : am_run (d + 1) 39 [.int (nI 0), .int (nI s)] (h) = some (some (.int (nI (sWt 0 s))), h) := by
  refine am_r39 (d := d + 0) (Nat.le_of_ble_eq_true rfl) [some (.int (nI 0)), some (.int (nI s))] rfl ?_
  refine am_q_iload_n rfl rfl ?_
  refine am_q_tsw (t := 41) rfl (by decide) ?_
  refine am_q_iload_n rfl rfl ?_
  refine am_q_iconst (v := nI 1) rfl rfl ?_
  refine am_q_iadd rfl (nI_add _ _) ?_
  refine am_q_ireturn rfl rfl rfl ?_
  rfl

theorem s_wt1 (d : Nat) (s : Nat) (h : am_H) : am_run (d + 1) 39 [.int (nI 1), .int (nI s)] (h) = some (some (.int (nI (sWt 1 s))), h) := by
  refine am_r39 (d := d + 0) (Nat.le_of_ble_eq_true rfl) [some (.int (nI 1)), some (.int (nI s))] rfl ?_
  refine am_q_iload_n rfl rfl ?_
  refine am_q_tsw (t := 28) rfl (by decide) ?_
  refine am_q_bipush (v := nI 9) rfl rfl ?_
  refine am_q_ireturn rfl rfl rfl ?_
  rfl

theorem s_wt2 (d : Nat) (s : Nat) (h : am_H) : am_run (d + 1) 39 [.int (nI 2), .int (nI s)] (h) = some (some (.int (nI (sWt 2 s))), h) := by
  refine am_r39 (d := d + 0) (Nat.le_of_ble_eq_true rfl) [some (.int (nI 2)), some (.int (nI s))] rfl ?_
  refine am_q_iload_n rfl rfl ?_
  refine am_q_tsw (t := 31) rfl (by decide) ?_
  refine am_q_iconst (v := nI 2) rfl rfl ?_
  refine am_q_iload_n rfl rfl ?_
  refine am_q_imul rfl (pk_mul _ _) ?_
  refine am_q_iconst (v := nI 1) rfl rfl ?_
  refine am_q_iadd rfl (nI_add _ _) ?_
  refine am_q_ireturn rfl rfl rfl ?_
  rfl

theorem s_wt3 (d : Nat) (s : Nat) (h : am_H) : am_run (d + 1) 39 [.int (nI 3), .int (nI s)] (h) = some (some (.int (nI (sWt 3 s))), h) := by
  refine am_r39 (d := d + 0) (Nat.le_of_ble_eq_true rfl) [some (.int (nI 3)), some (.int (nI s))] rfl ?_
  refine am_q_iload_n rfl rfl ?_
  refine am_q_tsw (t := 37) rfl (by decide) ?_
  refine am_q_iload_n rfl rfl ?_
  refine am_q_iconst (v := nI 4) rfl rfl ?_
  refine am_q_iadd rfl (nI_add _ _) ?_
  refine am_q_ireturn rfl rfl rfl ?_
  rfl

theorem s_weightOf (d k s : Nat) (hk : k ≤ 3) (h : am_H) : am_run (d + 1) 39 [.int (nI k), .int (nI s)] h = some (some (.int (nI (sWt k s))), h) := by
  rcases (show k = 0 ∨ k = 1 ∨ k = 2 ∨ k = 3 by omega) with rfl | rfl | rfl | rfl
  · exact s_wt0 d s h
  · exact s_wt1 d s h
  · exact s_wt2 d s h
  · exact s_wt3 d s h
theorem xTk_up {μ : am_M2} {ν : am_N2} {X : tTp} {i a k : Nat} {v : Int32} (ha : a ≠ 3 ∧ a ≠ 4) (hT : xTk μ ν X i) : xTk (am_up μ a k v) ν X i := xTk_c (fun b c z => am_up_ne (by omega)) rfl hT
theorem isWd_c {X : tTp} {i r : Nat} (hr : r < 18) (h : isWd X i r = false) : ¬ tkc X i = 128 + r := fun z => by rw [(tkc_w hr).mp z] at h; cases h
theorem pN_in {X : tTp} {i lo hi v : Nat} (h : pNum X i lo hi = .inr v) : lo ≤ v ∧ v ≤ hi := by
  unfold pNum at h
  split at h
  · cases h
  · split at h
    · cases h
    · cases h; omega
theorem s_soA (d : Nat) (n i : Nat) {X : tTp} {D : dft} {μ : am_M2} (ν : am_N2) (hX : tpOk X) (hT : xTk μ ν X i) (hL : xLg ν) (hD : xDf μ ν D) (hO : dOk D) (K : ∀ μ1 ν1 k, vN D.1 < 6 → isNm X (i + 1) = true → (fnd D.2.1 (vN D.1) (wd X (i + 1))).isSome = false → isKd X (i + 2) = some k → isWd X (i + 3) 2 = true → xTk μ1 ν1 X (i + 4) → (∀ a b, ¬ (a = 3 ∧ 2 ≤ b) → ¬ (a = 18 ∧ b = vN D.1) → μ1 a b = μ a b) → μ1 18 (vN D.1) = nI k → (∀ a b, ¬ (a = 3 ∧ b = 6) → ¬ (a = 17 ∧ b = vN D.1) → ν1 a b = ν a b) → ν1 17 (vN D.1) = lN (wd X (i + 1)) → am_w (d + 7) (Option.some FieldType.boolean) am_g34 54 [some (.ref 16), some (.ref 3), some (.int (nI (vN D.1)))] [] (am_hp n μ1 ν1) (vlQ X n μ ν (pSoul X i D))) : am_w (d + 7) (Option.some FieldType.boolean) am_g34 0 [some (.ref 16), some (.ref 3), none] [] (am_hp n μ ν) (vlQ X n μ ν (pSoul X i D)) := by
  have hN6 := hO.1.1
  refine am_q_aload_n rfl rfl ?_
  refine am_q_gi rfl rfl rfl hD.1.2.1 ?_
  refine am_q_bipush (v := nI 6) rfl rfl ?_
  refine am_q_iltN rfl (by omega) (by omega) (fun c_6 => ?_) (fun c_6 => ?_)
  · refine am_q_aload_n rfl rfl ?_
    refine am_q_gi rfl rfl rfl hD.1.2.1 ?_
    refine am_q_istore_n [some _, some _, some _] rfl (Nat.le_of_ble_eq_true rfl) rfl ?_
    refine am_q_aload_n rfl rfl ?_
    obtain ⟨μ1, ν1, hc1, hT1, hf1, hl1⟩ := s_step (d + 3) n (i + 1) ν hX hT.1 hT.2.1 hL
    have hD1 := xDf_3 (frT3_K hf1) hl1 hD
    have hL1 := xLg_S hl1 hL
    refine am_q_call rfl rfl (hc1) rfl ?_
    refine am_q_aload_n rfl rfl ?_
    refine am_q_aload_n rfl rfl ?_
    refine am_q_iload_n rfl rfl ?_
    cases hm : isNm X (i + 1) with
    | false =>
      have hp : pSoul X i D = .inl (wr X (i + 1) 1) := by unfold pSoul; rw [if_neg (by omega), if_pos hm]
      rw [hp]
      refine am_q_call rfl rfl (s_nn1 (d + 1) n (i + 1) _ ν1 hX hT1 hL1 hD1 hO rfl c_6 hm) rfl ?_
      refine am_q_if_eqB rfl (fun _ => ?_) (fun c => by cases c)
      refine am_q_iconst (v := nI 0) rfl rfl ?_
      refine am_q_ireturn rfl rfl rfl ?_
      exact vl_wr hD1.1.2.1 hN6 (frVd_3 (frT3_K hf1)) (frVL_3 hl1)
    | true =>
    cases hf : (fnd D.2.1 (vN D.1) (wd X (i + 1))).isSome with
    | true =>
      have hp : pSoul X i D = .inl (wr X (i + 1) 3) := by unfold pSoul; rw [if_neg (by omega), if_neg (by rw [hm]; decide), if_pos hf]
      rw [hp]
      refine am_q_call rfl rfl (s_nn3 (d + 1) n (i + 1) _ ν1 hX hT1 hL1 hD1 hO rfl c_6 hm hf) rfl ?_
      refine am_q_if_eqB rfl (fun _ => ?_) (fun c => by cases c)
      refine am_q_iconst (v := nI 0) rfl rfl ?_
      refine am_q_ireturn rfl rfl rfl ?_
      exact vl_wr hD1.1.2.1 hN6 (frVd_3 (frT3_K hf1)) (frVL_3 hl1)
    | false =>
    obtain ⟨μ2, ν2, hc2, hT2, hf2, hl2⟩ := s_nn0 (d + 1) n (i + 1) _ ν1 hX hT1 hL1 hD1 hO rfl c_6 hm hf
    have hv2 : ∀ a b, ¬ (a = 3 ∧ b = 6) → ¬ (a = 17 ∧ b = vN D.1) → ν2 a b = ν a b := fun a b z1 z2 => (hl2 a b z1).trans ((show am_upL ν1 17 (vN D.1) _ a b = ν1 a b from by unfold am_upL; by_cases e : a = 17; rw [if_pos e, if_neg (fun q => z2 ⟨e, q⟩)]; rw [if_neg e]).trans (hl1 a b z1))
    have hm2 : ∀ a b, ¬ (a = 3 ∧ 2 ≤ b) → μ2 a b = μ a b := fun a b z => (hf2 a b (by omega)).trans (hf1 a b (by omega))
    have hw2 : ν2 17 (vN D.1) = lN (wd X (i + 1)) := (hl2 17 _ (by omega)).trans (by unfold am_upL; rw [if_pos rfl, if_pos rfl])
    have hL2 : xLg ν2 := fun r hr => (hv2 1 r (by omega) (by omega)).trans (hL r hr)
    have hVL2 : frVL ν ν2 := fun a b z1 z2 => hv2 a b z1 (by omega)
    have h92 : μ2 16 9 = nI (vN D.1) := (hm2 16 9 (by omega)).trans hD.1.2.1
    refine am_q_call rfl rfl hc2 rfl ?_
    refine am_q_if_eqB rfl (fun c => by cases c) (fun _ => ?_)
    refine am_q_aload_n rfl rfl ?_
    refine am_q_aload_n rfl rfl ?_
    refine am_q_iload_n rfl rfl ?_
    cases hk : isKd X (i + 2) with
    | none =>
      have hp : pSoul X i D = .inl (wr X (i + 2) 1) := by unfold pSoul; rw [if_neg (by omega), if_neg (by rw [hm]; decide), if_neg (by rw [hf]; decide), hk]
      rw [hp]
      refine am_q_call rfl rfl (s_rk0 (d + 1) n (i + 2) _ ν2 hX hT2 hL2 c_6 hk) rfl ?_
      refine am_q_if_eqB rfl (fun _ => ?_) (fun c => by cases c)
      refine am_q_iconst (v := nI 0) rfl rfl ?_
      refine am_q_ireturn rfl rfl rfl ?_
      exact vl_wr h92 hN6 (fun a b z1 z2 => hm2 a b z1) hVL2
    | some k =>
    obtain ⟨μ3, ν3, hc3, hT3, hf3, hl3⟩ := s_rk1 (d + 1) n (i + 2) (vN D.1) ν2 hX hT2 hL2 c_6 k hk
    have hm3 : ∀ a b, ¬ (a = 3 ∧ 2 ≤ b) → ¬ (a = 18 ∧ b = vN D.1) → μ3 a b = μ a b := fun a b z1 z2 => (hf3 a b (by omega)).trans ((am_up_ne (by omega)).trans (hm2 a b z1))
    have hk3 : μ3 18 (vN D.1) = nI k := (hf3 18 _ (by omega)).trans am_up_eq
    have hv3 : ∀ a b, ¬ (a = 3 ∧ b = 6) → ¬ (a = 17 ∧ b = vN D.1) → ν3 a b = ν a b := fun a b z1 z2 => (hl3 a b z1).trans (hv2 a b z1 z2)
    have hL3 := xLg_S hl3 hL2
    refine am_q_call rfl rfl hc3 rfl ?_
    refine am_q_if_eqB rfl (fun c => by cases c) (fun _ => ?_)
    refine am_q_aload_n rfl rfl ?_
    refine am_q_sipush (v := nI 130) rfl rfl ?_
    cases h130 : isWd X (i + 3) 2 with
    | false =>
      have hp : pSoul X i D = .inl (wr X (i + 3) 1) := by unfold pSoul; rw [if_neg (by omega), if_neg (by rw [hm]; decide), if_neg (by rw [hf]; decide), hk]; simp only; rw [if_pos h130]
      rw [hp]
      refine am_q_call rfl rfl (s_pass0 (d + 2) 130 (by decide) n (i + 3) ν3 hX hT3 hL3 (isWd_c (r := 2) (by decide) h130)) rfl ?_
      refine am_q_if_neB rfl (fun c => by cases c) (fun _ => ?_)
      refine am_q_iconst (v := nI 0) rfl rfl ?_
      refine am_q_ireturn rfl rfl rfl ?_
      exact vl_wr ((hm3 16 9 (by omega) (by omega)).trans hD.1.2.1) hN6 (fun a b z1 z2 => hm3 a b z1 (by omega)) (fun a b z1 z2 => hv3 a b z1 (by omega))
    | true =>
    obtain ⟨μ4, ν4, hc4, hT4, hf4, hl4⟩ := s_pass1 (d + 2) 130 (by decide) n (i + 3) ν3 hX hT3 hL3 ((tkc_w (r := 2) (by decide)).mpr h130)
    refine am_q_call rfl rfl hc4 rfl ?_
    refine am_q_if_neB rfl (fun _ => ?_) (fun c => by cases c)
    exact K μ4 ν4 k c_6 hm hf hk h130 hT4 (fun a b z1 z2 => (hf4 a b (by omega)).trans (hm3 a b z1 z2)) ((hf4 18 _ (by omega)).trans hk3) (fun a b z1 z2 => (hl4 a b z1).trans (hv3 a b z1 z2)) ((hl4 17 _ (by omega)).trans ((hl3 17 _ (by omega)).trans hw2))
  · refine am_q_aload_n rfl rfl ?_
    refine am_q_iconst (v := nI 5) rfl rfl ?_
    refine am_q_call rfl rfl (s_wrong _ 5 n i ν hT.2.2.1) rfl ?_
    refine am_q_ireturn rfl rfl (sB_ok _) ?_
    unfold pSoul
    rw [if_pos c_6]
    exact vl_wr hD.1.2.1 hN6 (frVd_rf μ) (frVL_rf ν)
