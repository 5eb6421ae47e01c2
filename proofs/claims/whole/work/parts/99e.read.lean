def rdQ (X : tTp) (n : Nat) (μ : am_M2) (ν : am_N2) (r : Nat ⊕ dft) (y : am_R) : Prop := match r with
  | .inl c => ∃ μ' ν', y = (some (.int (sB false)), am_hp n μ' ν') ∧ μ' 3 7 = nI c ∧ frVd μ μ' ∧ frVL ν ν'
  | .inr E => ∃ μ1 ν', y = (some (.int (sB true)), am_hp n (am_rw μ1 22 (lgF μ1 (vN E.1) (vN E.1))) ν') ∧ xDf μ1 ν' E ∧ frVd μ μ1 ∧ frVL ν ν'
theorem rdQ_tr {X : tTp} {n : Nat} {μ μ1 : am_M2} {ν ν1 : am_N2} {r : Nat ⊕ dft} {y : am_R} (h : frVd μ μ1) (hl : frVL ν ν1) (hq : rdQ X n μ1 ν1 r y) : rdQ X n μ ν r y := by
  unfold rdQ at hq ⊢
  cases r with
  | inl c => obtain ⟨μ', ν', a, b, c, e⟩ := hq; exact ⟨μ', ν', a, b, frVd_tr h c, frVL_tr hl e⟩
  | inr E => obtain ⟨μ', ν', a, b, c, e⟩ := hq; exact ⟨μ', ν', a, b, frVd_tr h c, frVL_tr hl e⟩
theorem frVd_lg (μ : am_M2) (N j : Nat) : frVd μ (am_rw μ 22 (lgF μ N j)) := fun i k a b => lgF_18 μ N j i k (by omega)
theorem s_rdF (d n it N c : Nat) {X : tTp} (hit : it ≤ 1000) {μ : am_M2} {ν : am_N2} (h9 : μ 16 9 = nI N) (hN : N ≤ 6) (h7 : μ 3 7 = nI c) : am_w (d + 44) (Option.some FieldType.boolean) am_g23 8 [some (.ref 16), some (.ref 3), some (.int (sB (false))), some (.int (nI it))] [] (am_hp n μ ν) (rdQ X n μ ν (.inl c)) := by
  refine am_q_iload_n rfl rfl ?_
  refine am_q_sipush (v := nI 1000) rfl rfl ?_
  refine am_q_igeN rfl (by omega) (by omega) (fun c_12 => ?_) (fun c_12 => ?_)
  · refine am_q_aload_n rfl rfl ?_
    refine am_q_call rfl rfl (s_addLords _ n N hN ν h9) rfl ?_
    refine am_q_iload_n rfl rfl ?_
    refine am_q_ireturn rfl rfl (sB_ok _) ?_
    exact ⟨_, _, rfl, (lgF_18 μ N N 3 7 (by decide)).trans h7, frVd_lg μ N N, frVL_rf ν⟩
  · refine am_q_iload_n rfl rfl ?_
    refine am_q_if_eqB rfl (fun c_16 => ?_) (fun c_16 => by simp at c_16)
    refine am_q_aload_n rfl rfl ?_
    refine am_q_call rfl rfl (s_addLords _ n N hN ν h9) rfl ?_
    refine am_q_iload_n rfl rfl ?_
    refine am_q_ireturn rfl rfl (sB_ok _) ?_
    exact ⟨_, _, rfl, (lgF_18 μ N N 3 7 (by decide)).trans h7, frVd_lg μ N N, frVL_rf ν⟩

theorem s_rdT (d n it : Nat) {X : tTp} {D : dft} {μ : am_M2} {ν : am_N2} (hD : xDf μ ν D) (hO : dOk D) : am_w (d + 44) (Option.some FieldType.boolean) am_g23 55 [some (.ref 16), some (.ref 3), some (.int (sB (true))), some (.int (nI it))] [] (am_hp n μ ν) (rdQ X n μ ν (.inr D)) := by
  refine am_q_aload_n rfl rfl ?_
  refine am_q_call rfl rfl (s_addLords _ n (vN D.1) hO.1.1 ν hD.1.2.1) rfl ?_
  refine am_q_iload_n rfl rfl ?_
  refine am_q_ireturn rfl rfl (sB_ok _) ?_
  exact ⟨_, _, rfl, hD, frVd_rf μ, frVL_rf ν⟩

theorem s_rdA (d n j N c : Nat) {X : tTp} (hit : j + 1 ≤ 1000) {μ : am_M2} {ν : am_N2} (h9 : μ 16 9 = nI N) (hN : N ≤ 6) (h7 : μ 3 7 = nI c) : am_w (d + 44) (Option.some FieldType.boolean) am_g23 31 [some (.ref 16), some (.ref 3), some (.int (sB (true))), some (.int (nI j))] [.int (sB false)] (am_hp n μ ν) (rdQ X n μ ν (.inl c)) := by
  refine am_q_if_eqB rfl (fun c_31 => ?_) (fun c_31 => by simp at c_31)
  refine am_q_iconst (v := nI 0) rfl rfl ?_
  refine am_q_istore_n [some _, some _, some _, some _] rfl (Nat.le_of_ble_eq_true rfl) rfl ?_
  refine am_q_iinc [some _, some _, some _, some _] rfl (c := nI 1) rfl rfl (Nat.le_of_ble_eq_true rfl) (nI_add _ _) rfl ?_
  refine am_q_goto rfl ?_
  exact s_rdF d n (j + 1) N c hit h9 hN h7

theorem s_rdB (d n j N c : Nat) {X : tTp} (hit : j + 1 ≤ 1000) {μ : am_M2} {ν : am_N2} (h9 : μ 16 9 = nI N) (hN : N ≤ 6) (h7 : μ 3 7 = nI c) : am_w (d + 44) (Option.some FieldType.boolean) am_g23 40 [some (.ref 16), some (.ref 3), some (.int (sB (true))), some (.int (nI j))] [.int (sB false)] (am_hp n μ ν) (rdQ X n μ ν (.inl c)) := by
  refine am_q_if_eqB rfl (fun c_40 => ?_) (fun c_40 => by simp at c_40)
  refine am_q_iconst (v := nI 0) rfl rfl ?_
  refine am_q_istore_n [some _, some _, some _, some _] rfl (Nat.le_of_ble_eq_true rfl) rfl ?_
  refine am_q_iinc [some _, some _, some _, some _] rfl (c := nI 1) rfl rfl (Nat.le_of_ble_eq_true rfl) (nI_add _ _) rfl ?_
  refine am_q_goto rfl ?_
  exact s_rdF d n (j + 1) N c hit h9 hN h7

theorem s_rdS0 (d n j i : Nat) {X : tTp} {D : dft} (hit : j + 1 ≤ 1000) {μ : am_M2} {ν : am_N2} (hX : tpOk X) (hT : xTk μ ν X i) (hL : xLg ν) (hD : xDf μ ν D) (hO : dOk D) (hs : ¬ isSg X i 59 = true) : am_w (d + 44) (Option.some FieldType.boolean) am_g23 31 [some (.ref 16), some (.ref 3), some (.int (sB (true))), some (.int (nI j))] [.int (sB true)] (am_hp n μ ν) (rdQ X n μ ν (.inl (wr X i 1))) := by
  refine am_q_if_eqB rfl (fun c_31 => by simp at c_31) (fun c_31 => ?_)
  refine am_q_aload_n rfl rfl ?_
  refine am_q_bipush (v := nI 59) rfl rfl ?_
  refine am_q_call rfl rfl (s_pass0 _ 59 (by decide) n i ν hX hT hL (fun z => hs ((tkc_s (by decide)).mp z))) rfl ?_
  exact am_w_mono (fun r hr => rdQ_tr (frVd_3 frT3_7) (frVL_rf ν) hr) (s_rdB d n j (vN D.1) (wr X i 1) hit ((am_up_ne (by omega)).trans hD.1.2.1) hO.1.1 am_up_eq)

theorem s_rdS1 (d n j i : Nat) {X : tTp} {D : dft} (hit : j + 1 ≤ 1000) {μ : am_M2} {ν : am_N2} (hX : tpOk X) (hT : xTk μ ν X i) (hL : xLg ν) (hD : xDf μ ν D) (hO : dOk D) (hs : isSg X i 59 = true) (Q : am_R → Prop) (K : ∀ μ1 ν1, xTk μ1 ν1 X (i + 1) → xLg ν1 → xDf μ1 ν1 D → frVd μ μ1 → frVL ν ν1 → am_w (d + 44) (Option.some FieldType.boolean) am_g23 8 [some (.ref 16), some (.ref 3), some (.int (sB true)), some (.int (nI (j + 1)))] [] (am_hp n μ1 ν1) Q) : am_w (d + 44) (Option.some FieldType.boolean) am_g23 31 [some (.ref 16), some (.ref 3), some (.int (sB (true))), some (.int (nI j))] [.int (sB true)] (am_hp n μ ν) (Q) := by
  refine am_q_if_eqB rfl (fun c_31 => by simp at c_31) (fun c_31 => ?_)
  refine am_q_aload_n rfl rfl ?_
  refine am_q_bipush (v := nI 59) rfl rfl ?_
  obtain ⟨μ1, ν1, hc1, hT1, hf1, hl1⟩ := s_pass1 (d + 39) 59 (by decide) n i ν hX hT hL ((tkc_s (by decide)).mpr hs)
  refine am_q_call rfl rfl (hc1) rfl ?_
  refine am_q_if_eqB rfl (fun c_40 => by simp at c_40) (fun c_40 => ?_)
  refine am_q_iconst (v := nI 1) rfl rfl ?_
  refine am_q_goto rfl ?_
  refine am_q_istore_n [some _, some _, some _, some _] rfl (Nat.le_of_ble_eq_true rfl) rfl ?_
  refine am_q_iinc [some _, some _, some _, some _] rfl (c := nI 1) rfl rfl (Nat.le_of_ble_eq_true rfl) (nI_add _ _) rfl ?_
  refine am_q_goto rfl ?_
  exact K μ1 ν1 hT1 (xLg_S hl1 hL) (xDf_3 (frT3_K hf1) hl1 hD) (frVd_3 (frT3_K hf1)) (frVL_3 hl1)

theorem s_rdL (d n : Nat) {X : tTp} (hX : tpOk X) : ∀ (m j : Nat) (i : Nat) (D : dft) (μ : am_M2) (ν : am_N2), j + m = 1000 → xTk μ ν X i ∧ xLg ν ∧ xDf μ ν D ∧ dG D ∧ i ≤ tN X → am_w (d + 44) (Option.some FieldType.boolean) am_g23 8 [some (.ref 16), some (.ref 3), some (.int (sB (true))), some (.int (nI j))] [] (am_hp n μ ν) (rdQ X n μ ν (pRd X m i D)) := by
  intro m
  induction m with
  | zero =>
    intro j i D μ ν hj hinv
    obtain ⟨hT, hL, hD, hG, hiT⟩ := hinv
    refine am_q_iload_n rfl rfl ?_
    refine am_q_sipush (v := nI 1000) rfl rfl ?_
    refine am_q_igeN rfl (by omega) (by omega) (fun c_12 => ?_) (fun c_12 => absurd c_12 (by omega))
    unfold pRd
    first
    | (rw [if_pos (by assumption)]; exact s_rdT d n j hD hG.1)
    | exact s_rdT d n j hD hG.1
  | succ m ih =>
    intro j i D μ ν hj hinv
    obtain ⟨hT, hL, hD, hG, hiT⟩ := hinv
    have ht := tkc_lt X i
    refine am_q_iload_n rfl rfl ?_
    refine am_q_sipush (v := nI 1000) rfl rfl ?_
    refine am_q_igeN rfl (by omega) (by omega) (fun c_12 => absurd c_12 (by omega)) (fun c_12 => ?_)
    refine am_q_iload_n rfl rfl ?_
    refine am_q_if_eqB rfl (fun c_16 => by simp at c_16) (fun c_16 => ?_)
    refine am_q_aload_n rfl rfl ?_
    refine am_q_gi rfl rfl rfl hT.2.2.2.1 ?_
    refine am_q_zeqN rfl (by omega) (fun c_23 => ?_) (fun c_23 => ?_)
    · have hk0 := tkc_0.mp c_23
      unfold pRd
      first
      | (rw [if_pos (by assumption)]; exact s_rdT d n j hD hG.1)
      | exact s_rdT d n j hD hG.1
    · have hk0 : ¬ kd X i = 0 := fun z => c_23 (tkc_0.mpr z)
      refine am_q_aload_n rfl rfl ?_
      refine am_q_aload_n rfl rfl ?_
      obtain ⟨y, hy, hq⟩ := s_readLine d n i ν hX hT hL hD hG.1 hiT
      unfold pRd
      rw [if_neg hk0]
      cases hr : pLine X i D with
      | inl c =>
        rw [hr] at hq
        obtain ⟨μ2, ν2, N2, rfl, b1, b2, b3, b4, b5⟩ := hq
        refine am_q_call rfl rfl hy rfl ?_
        exact am_w_mono (fun r hr => rdQ_tr b4 b5 hr) (s_rdA d n j N2 c (by omega) b2 b3 b1)
      | inr q =>
        rw [hr] at hq
        obtain ⟨μ2, ν2, rfl, b1, b2, b3, b4⟩ := hq
        obtain ⟨g1, g2, g3⟩ := pLine_g hX hG hiT hr
        refine am_q_call rfl rfl hy rfl ?_
        show am_w _ _ _ _ _ _ _ (rdQ X n μ ν (if isSg X q.1 59 = true then pRd X m (q.1 + 1) q.2 else .inl (wr X q.1 1)))
        by_cases hs : isSg X q.1 59 = true
        · rw [if_pos hs]
          exact s_rdS1 d n j q.1 (by omega) hX b1 (xLg_V b4 hL) b2 g3.1 hs _ (fun μ3 ν3 e1 e2 e3 e4 e5 => am_w_mono (fun r hr => rdQ_tr (frVd_tr b3 e4) (frVL_tr b4 e5) hr) (ih (j + 1) (q.1 + 1) q.2 μ3 ν3 (by omega) ⟨e1, e2, e3, g3, tN_s g2 (sg_k hs)⟩))
        · rw [if_neg hs]
          exact am_w_mono (fun r hr => rdQ_tr b3 b4 hr) (s_rdS0 d n j q.1 (by omega) hX b1 (xLg_V b4 hL) b2 g3.1 hs)

theorem s_readW (d : Nat) (n : Nat) {X : tTp} {μ : am_M2} (ν : am_N2) (hX : tpOk X) (hT : xTk μ ν X 0) (hL : xLg ν) : am_w (d + 44) (Option.some FieldType.boolean) am_g23 0 [some (.ref 16), some (.ref 3), none, none] [] (am_hp n μ ν) (rdQ X n μ ν (pRd X 1000 0 d0)) := by
  refine am_q_aload_n rfl rfl ?_
  obtain ⟨μ1, hc1, hD1, hf1, hf3⟩ := s_beginR (d + 41) n (μ := μ) ν
  have hT1 : xTk μ1 ν X 0 := xTk_c (fun a k z => by rcases z with ⟨rfl, _⟩ | rfl; exact hf3 k; exact hf1 4 k (by omega) (by omega)) rfl hT
  refine am_q_call rfl rfl (hc1) rfl ?_
  refine am_q_iconst (v := nI 1) rfl rfl ?_
  refine am_q_istore_n [some _, some _, some _, none] rfl (Nat.le_of_ble_eq_true rfl) rfl ?_
  refine am_q_iconst (v := nI 0) rfl rfl ?_
  refine am_q_istore_n [some _, some _, some _, some _] rfl (Nat.le_of_ble_eq_true rfl) rfl ?_
  exact am_w_mono (fun r hr => rdQ_tr hf1 (frVL_rf ν) hr) (s_rdL d n hX 1000 0 0 d0 μ1 ν (by omega) ⟨hT1, hL, hD1, d0_g, Nat.zero_le _⟩)

theorem s_read (d : Nat) (n : Nat) {X : tTp} {μ : am_M2} (ν : am_N2) (hX : tpOk X) (hT : xTk μ ν X 0) (hL : xLg ν) : ∃ y, am_run (d + 45) 23 [.ref 16, .ref 3] (am_hp n μ ν) = some y ∧ rdQ X n μ ν (pRd X 1000 0 d0) y := am_run_wE (k := 23) (d := d + 44) rfl rfl (Nat.le_of_ble_eq_true rfl) [some (.ref 16), some (.ref 3), none, none] rfl (s_readW d n ν hX hT hL)