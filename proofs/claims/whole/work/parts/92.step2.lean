theorem s_stB (d n q p0 : Nat) {X : tTp} {μ : am_M2} (ν : am_N2) (hX : tpOk X) (hT : xTp μ X) (hq : q ≤ X.2) (hb : ∀ x, p0 ≤ x → x < q → blB (X.1 x) = true) (hno : q < X.2 → blB (X.1 q) = false) (Q : am_R → Prop) (K : ∀ μ1, frN μ μ1 → μ1 3 2 = nI q → am_w (d + 3) (Option.none : Option FieldType) am_g15 39 [some (.ref 3)] [] (am_hp n μ1 ν) Q) : ∀ (m j : Nat) (μ1 : am_M2), j + m = q → frN μ μ1 ∧ μ1 3 2 = nI j ∧ p0 ≤ j → am_w (d + 3) (Option.none : Option FieldType) am_g15 0 [some (.ref 3)] [] (am_hp n μ1 ν) (Q) := by
  intro m
  induction m with
  | zero =>
    intro j μ1 hj hinv
    have hT1 := xTp_N hinv.1 hT
    have h1000 := hX.1
    have hje : j = q := by omega
    refine am_q_aload_n rfl rfl ?_
    refine am_q_gi rfl rfl rfl hinv.2.1 ?_
    refine am_q_aload_n rfl rfl ?_
    refine am_q_gi rfl rfl rfl hT1.1 ?_
    refine am_q_igeN rfl (by omega) (by omega) (fun c_8 => ?_) (fun c_8 => ?_)
    · exact K μ1 hinv.1 (by rw [← hje]; exact hinv.2.1)
    · refine am_q_aload_n rfl rfl ?_
      refine am_q_gr rfl rfl rfl ?_
      refine am_q_aload_n rfl rfl ?_
      refine am_q_gi rfl rfl rfl hinv.2.1 ?_
      refine am_q_cald rfl rfl (am_ix_nI (show j < 1000 by omega) (by decide)) (hT1.2 j (by omega)) ?_
      have hcj := tp_128 hX c_8
      refine am_q_call rfl rfl (s_isBlank _ (X.1 j) (by omega) _) rfl ?_
      refine am_q_if_eqB rfl (fun c_23 => ?_) (fun c_23 => by rw [hje, hno (by omega)] at c_23; cases c_23)
      exact K μ1 hinv.1 (by rw [← hje]; exact hinv.2.1)
  | succ m ih =>
    intro j μ1 hj hinv
    have hT1 := xTp_N hinv.1 hT
    have h1000 := hX.1
    have hlj := hb j hinv.2.2 (by omega)
    have hcj := tp_128 hX (show j < X.2 by omega)
    refine am_q_aload_n rfl rfl ?_
    refine am_q_gi rfl rfl rfl hinv.2.1 ?_
    refine am_q_aload_n rfl rfl ?_
    refine am_q_gi rfl rfl rfl hT1.1 ?_
    refine am_q_igeN rfl (by omega) (by omega) (fun c_8 => absurd c_8 (by omega)) (fun c_8 => ?_)
    refine am_q_aload_n rfl rfl ?_
    refine am_q_gr rfl rfl rfl ?_
    refine am_q_aload_n rfl rfl ?_
    refine am_q_gi rfl rfl rfl hinv.2.1 ?_
    refine am_q_cald rfl rfl (am_ix_nI (show j < 1000 by omega) (by decide)) (hT1.2 j (by omega)) ?_
    refine am_q_call rfl rfl (s_isBlank _ (X.1 j) (by omega) _) rfl ?_
    refine am_q_if_eqB rfl (fun c_23 => by rw [hlj] at c_23; cases c_23) (fun c_23 => ?_)
    refine am_q_aload_n rfl rfl ?_
    refine am_q_dupr rfl ?_
    refine am_q_gi rfl rfl rfl hinv.2.1 ?_
    refine am_q_iconst (v := nI 1) rfl rfl ?_
    refine am_q_iadd rfl (nI_add _ _) ?_
    refine am_q_pi rfl rfl rfl (Or.inl rfl) ?_
    refine am_q_goto rfl ?_
    exact ih (j + 1) _ (by omega) ⟨frN_tr hinv.1 (frN_up _ _), am_up_eq, by omega⟩

theorem s_stE (d : Nat) (n i : Nat) {X : tTp} {μ : am_M2} (ν : am_N2) (hX : tpOk X) (hT : xTp μ X) (hn : μ 3 2 = nI (pl X i)) (hL : xLg ν) (h0 : X.2 ≤ pl X i) : am_w (d + 3) (Option.none : Option FieldType) am_g15 39 [some (.ref 3)] [] (am_hp n μ ν) (fun r => ∃ (μ' : am_M2) (ν' : am_N2), r = (none, am_hp n μ' ν') ∧ xTk μ' ν' X i ∧ frK μ μ' ∧ frKL ν ν') := by
  have h1000 := hX.1
  have hle := pl_le X i
  refine am_q_aload_n rfl rfl ?_
  refine am_q_aload_n rfl rfl ?_
  refine am_q_gi rfl rfl rfl hn ?_
  refine am_q_pi rfl rfl rfl (Or.inl rfl) ?_
  refine am_q_aload_n rfl rfl ?_
  refine am_q_gi rfl rfl rfl (show (am_up μ 3 4 (nI (pl X i))) 3 2 = nI (pl X i) from (am_up_ne (by omega)).trans hn) ?_
  refine am_q_aload_n rfl rfl ?_
  refine am_q_gi rfl rfl rfl (show (am_up μ 3 4 (nI (pl X i))) 3 1 = nI X.2 from (am_up_ne (by omega)).trans hT.1) ?_
  refine am_q_iltN rfl (by omega) (by omega) (fun c_55 => absurd c_55 (by omega)) (fun c_55 => ?_)
  refine am_q_aload_n rfl rfl ?_
  refine am_q_iconst (v := nI 0) rfl rfl ?_
  refine am_q_pi rfl rfl rfl (Or.inl rfl) ?_
  refine am_q_goto rfl ?_
  refine am_q_return rfl rfl ?_
  have hk : kd X i = 0 := kd_0.mpr h0
  have he : en X (i + 1) = pl X i := by rw [en_s]; unfold lkE; rw [if_pos h0]
  have ht : tkc X i = 0 := by unfold tkc; rw [hk]; rfl
  refine ⟨_, _, rfl, ⟨?_, ?_, ?_, ?_, fun z => (by rw [hk] at z; cases z), fun z => (by rw [hk] at z; cases z)⟩, fun a b c => by rw [am_up_ne (by omega), am_up_ne (by omega)], frKL_rf ν⟩
  · exact xTp_S (fun a b c => by rw [am_up_ne (by omega), am_up_ne (by omega)]) hT
  · rw [he, am_up_ne (by omega), am_up_ne (by omega)]; exact hn
  · rw [am_up_ne (by omega), am_up_eq]
  · rw [ht, am_up_eq]

theorem s_stW (d : Nat) (n i : Nat) {X : tTp} {μ : am_M2} (ν : am_N2) (hX : tpOk X) (hT : xTp μ X) (hn : μ 3 2 = nI (pl X i)) (hL : xLg ν) (h0 : pl X i < X.2) (hl : leB (X.1 (pl X i)) = true) : am_w (d + 3) (Option.none : Option FieldType) am_g15 39 [some (.ref 3)] [] (am_hp n μ ν) (fun r => ∃ (μ' : am_M2) (ν' : am_N2), r = (none, am_hp n μ' ν') ∧ xTk μ' ν' X i ∧ frK μ μ' ∧ frKL ν ν') := by
  have h1000 := hX.1
  have hle := pl_le X i
  have hcj := tp_128 hX h0
  have he : en X (i + 1) = lxL X (pl X i) := by rw [en_s]; unfold lkE; rw [if_neg (by omega), if_pos hl]
  have hk : kd X i = if 8 < en X (i + 1) - pl X i then 1 else 2 := by unfold kd lkK; rw [if_neg (by omega), if_pos hl, he]
  have hen : en X (i + 1) ≤ X.2 := en_le _
  have hgt : pl X i < en X (i + 1) := by rw [he]; exact rn_gt (f := fun x => leB (X.1 x)) h0 hl
  obtain ⟨μ2, ν2, hc2, f2, a4, a2, a3, a6, fl⟩ := s_stepWord d n (pl X i) (en X (i + 1)) (X := X) (μ := (am_up μ 3 4 (nI (pl X i)))) ν hX (xTp_S (frK_up (by omega)) hT) hgt hen (fun x h1 h2 => rn_in (f := fun x => leB (X.1 x)) h1 (by rw [he] at h2; exact h2)) (fun z => by have := rn_out (f := fun x => leB (X.1 x)) (n := X.2) (p := pl X i) (by rw [he] at z; exact z); rw [he]; exact this) hL ((am_up_ne (by omega)).trans hn) am_up_eq
  refine am_q_aload_n rfl rfl ?_
  refine am_q_aload_n rfl rfl ?_
  refine am_q_gi rfl rfl rfl hn ?_
  refine am_q_pi rfl rfl rfl (Or.inl rfl) ?_
  refine am_q_aload_n rfl rfl ?_
  refine am_q_gi rfl rfl rfl (show (am_up μ 3 4 (nI (pl X i))) 3 2 = nI (pl X i) from (am_up_ne (by omega)).trans hn) ?_
  refine am_q_aload_n rfl rfl ?_
  refine am_q_gi rfl rfl rfl (show (am_up μ 3 4 (nI (pl X i))) 3 1 = nI X.2 from (am_up_ne (by omega)).trans hT.1) ?_
  refine am_q_iltN rfl (by omega) (by omega) (fun c_55 => ?_) (fun c_55 => absurd c_55 (by omega))
  refine am_q_aload_n rfl rfl ?_
  refine am_q_gr rfl rfl rfl ?_
  refine am_q_aload_n rfl rfl ?_
  refine am_q_gi rfl rfl rfl (show (am_up μ 3 4 (nI (pl X i))) 3 2 = nI (pl X i) from (am_up_ne (by omega)).trans hn) ?_
  refine am_q_cald rfl rfl (am_ix_nI (show pl X i < 1000 by omega) (by decide)) (show (am_up μ 3 4 (nI (pl X i))) 4 (pl X i) = nI (X.1 (pl X i)) from (am_up_ne (by omega)).trans (hT.2 _ (by omega))) ?_
  refine am_q_call rfl rfl (s_isLetter _ (X.1 (pl X i)) (by omega) _) rfl ?_
  refine am_q_if_eqB rfl (fun c_78 => by rw [hl] at c_78; cases c_78) (fun c_78 => ?_)
  refine am_q_aload_n rfl rfl ?_
  refine am_q_call rfl rfl (hc2) rfl ?_
  refine am_q_goto rfl ?_
  refine am_q_return rfl rfl ?_
  refine ⟨_, _, rfl, ⟨xTp_S (frK_tr (frK_up (by omega)) f2) hT, a2, a4, ?_, fun z => ?_, fun _ => a6⟩, frK_tr (frK_up (by omega)) f2, fl⟩
  · rw [a3]
    unfold tkc
    by_cases z : 8 < en X (i + 1) - pl X i
    · rw [if_pos z] at hk ⊢; rw [hk, if_neg (by decide), if_neg (by decide)]
    · rw [if_neg z] at hk ⊢; rw [hk, if_pos rfl]; unfold wd; rfl
  · rw [hk] at z; split at z <;> omega

theorem s_stN (d : Nat) (n i : Nat) {X : tTp} {μ : am_M2} (ν : am_N2) (hX : tpOk X) (hT : xTp μ X) (hn : μ 3 2 = nI (pl X i)) (hL : xLg ν) (h0 : pl X i < X.2) (hl : leB (X.1 (pl X i)) = false) (hd : diB (X.1 (pl X i)) = true) : am_w (d + 3) (Option.none : Option FieldType) am_g15 39 [some (.ref 3)] [] (am_hp n μ ν) (fun r => ∃ (μ' : am_M2) (ν' : am_N2), r = (none, am_hp n μ' ν') ∧ xTk μ' ν' X i ∧ frK μ μ' ∧ frKL ν ν') := by
  have h1000 := hX.1
  have hle := pl_le X i
  have hcj := tp_128 hX h0
  have he : en X (i + 1) = lxD X (pl X i) := by rw [en_s]; unfold lkE; rw [if_neg (by omega), if_neg (by rw [hl]; exact Bool.false_ne_true), if_pos hd]
  have hk : kd X i = if 4 < en X (i + 1) - pl X i then 1 else 3 := by unfold kd lkK; rw [if_neg (by omega), if_neg (by rw [hl]; exact Bool.false_ne_true), if_pos hd, he]
  have hen : en X (i + 1) ≤ X.2 := en_le _
  have hgt : pl X i < en X (i + 1) := by rw [he]; exact rn_gt (f := fun x => diB (X.1 x)) h0 hd
  obtain ⟨μ2, hc2, f2, a4, a2, a3, a6⟩ := s_stepNumber d n (pl X i) (en X (i + 1)) (X := X) (μ := (am_up μ 3 4 (nI (pl X i)))) ν hX (xTp_S (frK_up (by omega)) hT) hgt hen (fun x h1 h2 => rn_in (f := fun x => diB (X.1 x)) h1 (by rw [he] at h2; exact h2)) (fun z => by have := rn_out (f := fun x => diB (X.1 x)) (n := X.2) (p := pl X i) (by rw [he] at z; exact z); rw [he]; exact this) ((am_up_ne (by omega)).trans hn) am_up_eq
  refine am_q_aload_n rfl rfl ?_
  refine am_q_aload_n rfl rfl ?_
  refine am_q_gi rfl rfl rfl hn ?_
  refine am_q_pi rfl rfl rfl (Or.inl rfl) ?_
  refine am_q_aload_n rfl rfl ?_
  refine am_q_gi rfl rfl rfl (show (am_up μ 3 4 (nI (pl X i))) 3 2 = nI (pl X i) from (am_up_ne (by omega)).trans hn) ?_
  refine am_q_aload_n rfl rfl ?_
  refine am_q_gi rfl rfl rfl (show (am_up μ 3 4 (nI (pl X i))) 3 1 = nI X.2 from (am_up_ne (by omega)).trans hT.1) ?_
  refine am_q_iltN rfl (by omega) (by omega) (fun c_55 => ?_) (fun c_55 => absurd c_55 (by omega))
  refine am_q_aload_n rfl rfl ?_
  refine am_q_gr rfl rfl rfl ?_
  refine am_q_aload_n rfl rfl ?_
  refine am_q_gi rfl rfl rfl (show (am_up μ 3 4 (nI (pl X i))) 3 2 = nI (pl X i) from (am_up_ne (by omega)).trans hn) ?_
  refine am_q_cald rfl rfl (am_ix_nI (show pl X i < 1000 by omega) (by decide)) (show (am_up μ 3 4 (nI (pl X i))) 4 (pl X i) = nI (X.1 (pl X i)) from (am_up_ne (by omega)).trans (hT.2 _ (by omega))) ?_
  refine am_q_call rfl rfl (s_isLetter _ (X.1 (pl X i)) (by omega) _) rfl ?_
  refine am_q_if_eqB rfl (fun c_78 => ?_) (fun c_78 => by rw [hl] at c_78; cases c_78)
  refine am_q_aload_n rfl rfl ?_
  refine am_q_gr rfl rfl rfl ?_
  refine am_q_aload_n rfl rfl ?_
  refine am_q_gi rfl rfl rfl (show (am_up μ 3 4 (nI (pl X i))) 3 2 = nI (pl X i) from (am_up_ne (by omega)).trans hn) ?_
  refine am_q_cald rfl rfl (am_ix_nI (show pl X i < 1000 by omega) (by decide)) (show (am_up μ 3 4 (nI (pl X i))) 4 (pl X i) = nI (X.1 (pl X i)) from (am_up_ne (by omega)).trans (hT.2 _ (by omega))) ?_
  refine am_q_call rfl rfl (s_isNumeral _ (X.1 (pl X i)) (by omega) _) rfl ?_
  refine am_q_if_eqB rfl (fun c_100 => by rw [hd] at c_100; cases c_100) (fun c_100 => ?_)
  refine am_q_aload_n rfl rfl ?_
  refine am_q_call rfl rfl (hc2) rfl ?_
  refine am_q_goto rfl ?_
  refine am_q_return rfl rfl ?_
  refine ⟨_, _, rfl, ⟨xTp_S (frK_tr (frK_up (by omega)) f2) hT, a2, a4, ?_, fun _ => a6, fun z => ?_⟩, frK_tr (frK_up (by omega)) f2, frKL_rf ν⟩
  · rw [a3]
    unfold tkc
    by_cases z : 4 < en X (i + 1) - pl X i
    · rw [if_pos z] at hk ⊢; rw [hk, if_neg (by decide), if_neg (by decide)]
    · rw [if_neg z] at hk ⊢; rw [hk, if_neg (by decide), if_neg (by decide)]
  · rw [hk] at z; split at z <;> omega

theorem s_stS (d : Nat) (n i : Nat) {X : tTp} {μ : am_M2} (ν : am_N2) (hX : tpOk X) (hT : xTp μ X) (hn : μ 3 2 = nI (pl X i)) (hL : xLg ν) (h0 : pl X i < X.2) (hl : leB (X.1 (pl X i)) = false) (hd : diB (X.1 (pl X i)) = false) : am_w (d + 3) (Option.none : Option FieldType) am_g15 39 [some (.ref 3)] [] (am_hp n μ ν) (fun r => ∃ (μ' : am_M2) (ν' : am_N2), r = (none, am_hp n μ' ν') ∧ xTk μ' ν' X i ∧ frK μ μ' ∧ frKL ν ν') := by
  have h1000 := hX.1
  have hle := pl_le X i
  have hcj := tp_128 hX h0
  have he : en X (i + 1) = pl X i + 1 := by rw [en_s]; unfold lkE; rw [if_neg (by omega), if_neg (by rw [hl]; exact Bool.false_ne_true), if_neg (by rw [hd]; exact Bool.false_ne_true)]
  refine am_q_aload_n rfl rfl ?_
  refine am_q_aload_n rfl rfl ?_
  refine am_q_gi rfl rfl rfl hn ?_
  refine am_q_pi rfl rfl rfl (Or.inl rfl) ?_
  refine am_q_aload_n rfl rfl ?_
  refine am_q_gi rfl rfl rfl (show (am_up μ 3 4 (nI (pl X i))) 3 2 = nI (pl X i) from (am_up_ne (by omega)).trans hn) ?_
  refine am_q_aload_n rfl rfl ?_
  refine am_q_gi rfl rfl rfl (show (am_up μ 3 4 (nI (pl X i))) 3 1 = nI X.2 from (am_up_ne (by omega)).trans hT.1) ?_
  refine am_q_iltN rfl (by omega) (by omega) (fun c_55 => ?_) (fun c_55 => absurd c_55 (by omega))
  refine am_q_aload_n rfl rfl ?_
  refine am_q_gr rfl rfl rfl ?_
  refine am_q_aload_n rfl rfl ?_
  refine am_q_gi rfl rfl rfl (show (am_up μ 3 4 (nI (pl X i))) 3 2 = nI (pl X i) from (am_up_ne (by omega)).trans hn) ?_
  refine am_q_cald rfl rfl (am_ix_nI (show pl X i < 1000 by omega) (by decide)) (show (am_up μ 3 4 (nI (pl X i))) 4 (pl X i) = nI (X.1 (pl X i)) from (am_up_ne (by omega)).trans (hT.2 _ (by omega))) ?_
  refine am_q_call rfl rfl (s_isLetter _ (X.1 (pl X i)) (by omega) _) rfl ?_
  refine am_q_if_eqB rfl (fun c_78 => ?_) (fun c_78 => by rw [hl] at c_78; cases c_78)
  refine am_q_aload_n rfl rfl ?_
  refine am_q_gr rfl rfl rfl ?_
  refine am_q_aload_n rfl rfl ?_
  refine am_q_gi rfl rfl rfl (show (am_up μ 3 4 (nI (pl X i))) 3 2 = nI (pl X i) from (am_up_ne (by omega)).trans hn) ?_
  refine am_q_cald rfl rfl (am_ix_nI (show pl X i < 1000 by omega) (by decide)) (show (am_up μ 3 4 (nI (pl X i))) 4 (pl X i) = nI (X.1 (pl X i)) from (am_up_ne (by omega)).trans (hT.2 _ (by omega))) ?_
  refine am_q_call rfl rfl (s_isNumeral _ (X.1 (pl X i)) (by omega) _) rfl ?_
  refine am_q_if_eqB rfl (fun c_100 => ?_) (fun c_100 => by rw [hd] at c_100; cases c_100)
  refine am_q_aload_n rfl rfl ?_
  refine am_q_aload_n rfl rfl ?_
  refine am_q_gr rfl rfl rfl ?_
  refine am_q_aload_n rfl rfl ?_
  refine am_q_gi rfl rfl rfl (show (am_up μ 3 4 (nI (pl X i))) 3 2 = nI (pl X i) from (am_up_ne (by omega)).trans hn) ?_
  refine am_q_cald rfl rfl (am_ix_nI (show pl X i < 1000 by omega) (by decide)) (show (am_up μ 3 4 (nI (pl X i))) 4 (pl X i) = nI (X.1 (pl X i)) from (am_up_ne (by omega)).trans (hT.2 _ (by omega))) ?_
  refine am_q_call rfl rfl (s_isSign _ (X.1 (pl X i)) hcj _) rfl ?_
  refine am_q_if_eqB rfl (fun c_123 => ?_) (fun c_123 => ?_)
  · refine am_q_iconst (v := nI 1) rfl rfl ?_
    refine am_q_pi rfl rfl rfl (Or.inl rfl) ?_
    refine am_q_aload_n rfl rfl ?_
    refine am_q_dupr rfl ?_
    refine am_q_gi rfl rfl rfl (show am_up (am_up μ 3 4 (nI (pl X i))) 3 3 _ 3 2 = nI (pl X i) from (am_up_ne (by omega)).trans ((am_up_ne (by omega)).trans hn)) ?_
    refine am_q_iconst (v := nI 1) rfl rfl ?_
    refine am_q_iadd rfl (nI_add _ _) ?_
    refine am_q_pi rfl rfl rfl (Or.inl rfl) ?_
    refine am_q_return rfl rfl ?_
    have hk : kd X i = 1 := by unfold kd lkK; rw [if_neg (by omega), if_neg (by rw [hl]; exact Bool.false_ne_true), if_neg (by rw [hd]; exact Bool.false_ne_true)]; rw [c_123]; rfl
    have ht : tkc X i = 1 := by unfold tkc; rw [hk]; rfl
    refine ⟨_, _, rfl, ⟨?_, ?_, ?_, ?_, fun z => (by rw [hk] at z; cases z), fun z => (by rw [hk] at z; cases z)⟩, fun a b c => by rw [am_up_ne (by omega), am_up_ne (by omega), am_up_ne (by omega)], frKL_rf ν⟩
    · exact xTp_S (fun a b c => by rw [am_up_ne (by omega), am_up_ne (by omega), am_up_ne (by omega)]) hT
    · rw [he, am_up_eq]
    · rw [am_up_ne (by omega), am_up_ne (by omega), am_up_eq]
    · rw [ht, am_up_ne (by omega), am_up_eq]
  · refine am_q_aload_n rfl rfl ?_
    refine am_q_gr rfl rfl rfl ?_
    refine am_q_aload_n rfl rfl ?_
    refine am_q_gi rfl rfl rfl (show (am_up μ 3 4 (nI (pl X i))) 3 2 = nI (pl X i) from (am_up_ne (by omega)).trans hn) ?_
    refine am_q_cald rfl rfl (am_ix_nI (show pl X i < 1000 by omega) (by decide)) (show (am_up μ 3 4 (nI (pl X i))) 4 (pl X i) = nI (X.1 (pl X i)) from (am_up_ne (by omega)).trans (hT.2 _ (by omega))) ?_
    refine am_q_goto rfl ?_
    refine am_q_pi rfl rfl rfl (Or.inl rfl) ?_
    refine am_q_aload_n rfl rfl ?_
    refine am_q_dupr rfl ?_
    refine am_q_gi rfl rfl rfl (show am_up (am_up μ 3 4 (nI (pl X i))) 3 3 _ 3 2 = nI (pl X i) from (am_up_ne (by omega)).trans ((am_up_ne (by omega)).trans hn)) ?_
    refine am_q_iconst (v := nI 1) rfl rfl ?_
    refine am_q_iadd rfl (nI_add _ _) ?_
    refine am_q_pi rfl rfl rfl (Or.inl rfl) ?_
    refine am_q_return rfl rfl ?_
    have hk : kd X i = 4 := by unfold kd lkK; rw [if_neg (by omega), if_neg (by rw [hl]; exact Bool.false_ne_true), if_neg (by rw [hd]; exact Bool.false_ne_true)]; rw [c_123]; rfl
    have ht : tkc X i = X.1 (pl X i) := by unfold tkc; rw [hk]; rfl
    refine ⟨_, _, rfl, ⟨?_, ?_, ?_, ?_, fun z => (by rw [hk] at z; cases z), fun z => (by rw [hk] at z; cases z)⟩, fun a b c => by rw [am_up_ne (by omega), am_up_ne (by omega), am_up_ne (by omega)], frKL_rf ν⟩
    · exact xTp_S (fun a b c => by rw [am_up_ne (by omega), am_up_ne (by omega), am_up_ne (by omega)]) hT
    · rw [he, am_up_eq]
    · rw [am_up_ne (by omega), am_up_ne (by omega), am_up_eq]
    · rw [ht, am_up_ne (by omega), am_up_eq]

/-- the next token -/
theorem s_step (d : Nat) (n i : Nat) {X : tTp} {μ : am_M2} (ν : am_N2) (hX : tpOk X) (hT : xTp μ X) (hn : μ 3 2 = nI (en X i)) (hL : xLg ν) : ∃ (μ' : am_M2) (ν' : am_N2), am_run (d + 4) 15 [.ref 3] (am_hp n μ ν) = some (none, am_hp n μ' ν') ∧ xTk μ' ν' X i ∧ frK μ μ' ∧ frKL ν ν' := by
  have key : ∃ r, am_run (d + 4) 15 [.ref 3] (am_hp n μ ν) = some r ∧ ∃ (μ' : am_M2) (ν' : am_N2), r = (none, am_hp n μ' ν') ∧ xTk μ' ν' X i ∧ frK μ μ' ∧ frKL ν ν' := am_run_wE (k := 15) (d := d + 3) rfl rfl (Nat.le_of_ble_eq_true rfl) [some (.ref 3)] rfl (by
    have hge := pl_ge X i
    refine s_stB d n (pl X i) (en X i) ν hX hT (pl_le X i) (fun x h1 h2 => rn_in (f := fun q => blB (X.1 q)) h1 h2) (fun z => rn_out (f := fun q => blB (X.1 q)) (n := X.2) (p := en X i) z) _ (fun μ1 f1 a1 => ?_) (pl X i - en X i) (en X i) μ (by omega) ⟨fun _ _ _ => rfl, hn, Nat.le_refl _⟩
    refine am_w_mono (fun r hr => ?_) (Q := fun r => ∃ (μ' : am_M2) (ν' : am_N2), r = (none, am_hp n μ' ν') ∧ xTk μ' ν' X i ∧ frK μ1 μ' ∧ frKL ν ν') ?_
    · obtain ⟨μ', ν', h1, h2, h3, h4⟩ := hr
      exact ⟨μ', ν', h1, h2, frK_tr (frK_N f1) h3, h4⟩
    have hT1 := xTp_N f1 hT
    by_cases h0 : X.2 ≤ pl X i
    · exact s_stE d n i ν hX hT1 a1 hL h0
    · cases hl : leB (X.1 (pl X i)) with
      | true => exact s_stW d n i ν hX hT1 a1 hL (by omega) hl
      | false =>
        cases hd : diB (X.1 (pl X i)) with
        | true => exact s_stN d n i ν hX hT1 a1 hL (by omega) hl hd
        | false => exact s_stS d n i ν hX hT1 a1 hL (by omega) hl hd)
  obtain ⟨r, h1, μ', ν', h2, h3⟩ := key
  exact ⟨μ', ν', by rw [h1, h2], h3⟩