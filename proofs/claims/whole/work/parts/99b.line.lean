theorem s_frF (d n it : Nat) (hit : it ≤ 1000) (μ : am_M2) (ν : am_N2) (Q : am_R → Prop) (hQ : Q (some (.int (sB false)), am_hp n μ ν)) : am_w (d + 6) (Option.some FieldType.boolean) am_g44 25 [some (.ref 16), some (.ref 3), some (.int (sB (false))), some (.int (nI it))] [] (am_hp n μ ν) (Q) := by
  refine am_q_iload_n rfl rfl ?_
  refine am_q_sipush (v := nI 1000) rfl rfl ?_
  refine am_q_igeN rfl (by omega) (by omega) (fun c_29 => ?_) (fun c_29 => ?_)
  · refine am_q_iload_n rfl rfl ?_
    refine am_q_ireturn rfl rfl (sB_ok _) ?_
    exact hQ
  · refine am_q_iload_n rfl rfl ?_
    refine am_q_if_eqB rfl (fun c_33 => ?_) (fun c_33 => by simp at c_33)
    refine am_q_iload_n rfl rfl ?_
    refine am_q_ireturn rfl rfl (sB_ok _) ?_
    exact hQ

theorem s_frL (d n : Nat) {X : tTp} (hX : tpOk X) : ∀ (m j : Nat) (i : Nat) (D : dft) (μ : am_M2) (ν : am_N2), j + m = 1000 → xTk μ ν X i ∧ xLg ν ∧ xDf μ ν D ∧ dOk D → am_w (d + 6) (Option.some FieldType.boolean) am_g44 25 [some (.ref 16), some (.ref 3), some (.int (sB (true))), some (.int (nI j))] [] (am_hp n μ ν) (vlQ X n μ ν (pFrL X m i D)) := by
  intro m
  induction m with
  | zero =>
    intro j i D μ ν hj hinv
    obtain ⟨hT, hL, hD, hO⟩ := hinv
    refine am_q_iload_n rfl rfl ?_
    refine am_q_sipush (v := nI 1000) rfl rfl ?_
    refine am_q_igeN rfl (by omega) (by omega) (fun c_29 => ?_) (fun c_29 => absurd c_29 (by omega))
    refine am_q_iload_n rfl rfl ?_
    refine am_q_ireturn rfl rfl (sB_ok _) ?_
    exact ⟨_, _, rfl, hT, hD, frVd_rf μ, frVL_rf ν⟩
  | succ m ih =>
    intro j i D μ ν hj hinv
    obtain ⟨hT, hL, hD, hO⟩ := hinv
    have ht := tkc_lt X i
    refine am_q_iload_n rfl rfl ?_
    refine am_q_sipush (v := nI 1000) rfl rfl ?_
    refine am_q_igeN rfl (by omega) (by omega) (fun c_29 => absurd c_29 (by omega)) (fun c_29 => ?_)
    refine am_q_iload_n rfl rfl ?_
    refine am_q_if_eqB rfl (fun c_33 => by simp at c_33) (fun c_33 => ?_)
    refine am_q_aload_n rfl rfl ?_
    refine am_q_gi rfl rfl rfl hT.2.2.2.1 ?_
    refine am_q_iconst (v := nI 3) rfl rfl ?_
    refine am_q_ineN rfl (by omega) (by omega) (fun c_41 => ?_) (fun c_41 => ?_)
    · have hk3 : ¬ kd X i = 3 := fun z => c_41 (tkc_3.mpr z)
      refine am_q_iload_n rfl rfl ?_
      refine am_q_ireturn rfl rfl (sB_ok _) ?_
      unfold pFrL
      rw [if_neg hk3]
      exact ⟨_, _, rfl, hT, hD, frVd_rf μ, frVL_rf ν⟩
    · have hk3 := tkc_3.mp c_41
      refine am_q_aload_n rfl rfl ?_
      refine am_q_aload_n rfl rfl ?_
      obtain ⟨y, hy, hq⟩ := s_readCold d n i ν hX hT hL hD hO
      unfold pFrL
      rw [if_pos hk3]
      cases hr : pCold X i D with
      | inl c =>
        rw [hr] at hq
        obtain ⟨μ2, ν2, N2, rfl, b1, b2, b3, b4, b5⟩ := hq
        refine am_q_call rfl rfl hy rfl ?_
        refine am_q_istore_n [some _, some _, some _, some _] rfl (Nat.le_of_ble_eq_true rfl) rfl ?_
        refine am_q_iinc [some _, some _, some _, some _] rfl (c := nI 1) rfl rfl (Nat.le_of_ble_eq_true rfl) (nI_add _ _) rfl ?_
        refine am_q_goto rfl ?_
        exact s_frF d n (j + 1) (by omega) μ2 ν2 _ ⟨μ2, ν2, N2, rfl, b1, b2, b3, b4, b5⟩
      | inr q =>
        rw [hr] at hq
        obtain ⟨μ2, ν2, rfl, b1, b2, b3, b4⟩ := hq
        obtain ⟨g1, g2, g3⟩ := pCold_ok hO hr
        refine am_q_call rfl rfl hy rfl ?_
        refine am_q_istore_n [some _, some _, some _, some _] rfl (Nat.le_of_ble_eq_true rfl) rfl ?_
        refine am_q_iinc [some _, some _, some _, some _] rfl (c := nI 1) rfl rfl (Nat.le_of_ble_eq_true rfl) (nI_add _ _) rfl ?_
        refine am_q_goto rfl ?_
        exact am_w_mono (fun r hr => vlQ_tr b3 b4 hr) (ih (j + 1) q.1 q.2 μ2 ν2 (by omega) ⟨b1, xLg_V b4 hL, b2, g1⟩)

theorem s_froL (d : Nat) (n i : Nat) {X : tTp} {D : dft} {μ : am_M2} (ν : am_N2) (hX : tpOk X) (hT : xTk μ ν X i) (hL : xLg ν) (hD : xDf μ ν D) (hO : dOk D) : am_w (d + 6) (Option.some FieldType.boolean) am_g44 0 [some (.ref 16), some (.ref 3), none, none] [] (am_hp n μ ν) (vlQ X n μ ν (pFrost X i D)) := by
  have hN6 := hO.1.1
  have hF12 := hO.1.2.2.1
  refine am_q_aload_n rfl rfl ?_
  refine am_q_gi rfl rfl rfl hD.1.2.2.2.1 ?_
  refine am_q_zleN rfl (by omega) (fun c_4 => ?_) (fun c_4 => ?_)
  · have hz : ¬ 0 < vF D.1 := by omega
    refine am_q_aload_n rfl rfl ?_
    obtain ⟨μ1, ν1, hc1, hT1, hf1, hl1⟩ := s_step (d + 2) n (i + 1) ν hX hT.1 hT.2.1 hL
    have hD1 := xDf_3 (frT3_K hf1) hl1 hD
    have hL1 := xLg_S hl1 hL
    refine am_q_call rfl rfl (hc1) rfl ?_
    unfold pFrost
    rw [if_neg hz]
    obtain ⟨y, hy, hq⟩ := s_readCold d n (i + 1) ν1 hX hT1 hL1 hD1 hO
    refine am_q_aload_n rfl rfl ?_
    refine am_q_aload_n rfl rfl ?_
    cases hr : pCold X (i + 1) D with
    | inl c =>
      rw [hr] at hq
      obtain ⟨μ2, ν2, N2, rfl, b1, b2, b3, b4, b5⟩ := hq
      refine am_q_call rfl rfl hy rfl ?_
      refine am_q_istore_n [some _, some _, some _, none] rfl (Nat.le_of_ble_eq_true rfl) rfl ?_
      refine am_q_iconst (v := nI 0) rfl rfl ?_
      refine am_q_istore_n [some _, some _, some _, some _] rfl (Nat.le_of_ble_eq_true rfl) rfl ?_
      exact s_frF d n 0 (by omega) μ2 ν2 _ ⟨μ2, ν2, N2, rfl, b1, b2, b3, frVd_tr (frVd_3 (frT3_K hf1)) b4, frVL_tr (frVL_3 hl1) b5⟩
    | inr q =>
      rw [hr] at hq
      obtain ⟨μ2, ν2, rfl, b1, b2, b3, b4⟩ := hq
      obtain ⟨g1, g2, g3⟩ := pCold_ok hO hr
      refine am_q_call rfl rfl hy rfl ?_
      refine am_q_istore_n [some _, some _, some _, none] rfl (Nat.le_of_ble_eq_true rfl) rfl ?_
      refine am_q_iconst (v := nI 0) rfl rfl ?_
      refine am_q_istore_n [some _, some _, some _, some _] rfl (Nat.le_of_ble_eq_true rfl) rfl ?_
      exact am_w_mono (fun r hr => vlQ_tr (frVd_tr (frVd_3 (frT3_K hf1)) b3) (frVL_tr (frVL_3 hl1) b4) hr) (s_frL d n hX 1000 0 q.1 q.2 μ2 ν2 (by omega) ⟨b1, xLg_V b4 hL1, b2, g1⟩)
  · refine am_q_aload_n rfl rfl ?_
    refine am_q_iconst (v := nI 3) rfl rfl ?_
    refine am_q_call rfl rfl (s_wrong _ 3 n i ν hT.2.2.1) rfl ?_
    refine am_q_ireturn rfl rfl (sB_ok _) ?_
    unfold pFrost
    rw [if_pos c_4]
    exact vl_wr hD.1.2.1 hN6 (frVd_rf μ) (frVL_rf ν)

/-- StoneSecrets$Law.beNothing()V -/
theorem s_beNothing (d : Nat) (n : Nat) (μ : am_M2) (ν : am_N2) : am_run (d + 1) 27 [.ref 24] (am_hp n μ ν) = some (none, am_hp n (am_up μ 24 2 (nI 0)) ν) := by
  refine am_r27 (d := d + 0) (Nat.le_of_ble_eq_true rfl) [some (.ref 24)] rfl ?_
  refine am_q_aload_n rfl rfl ?_
  refine am_q_iconst (v := nI 0) rfl rfl ?_
  refine am_q_pi rfl rfl rfl (Or.inl rfl) ?_
  refine am_q_return rfl rfl ?_
  rfl

def blQ (X : tTp) (n i : Nat) (D : dft) (μ : am_M2) (ν : am_N2) (y : am_R) : Prop := if D.2.2 = true then y = (some (.int (sB false)), am_hp n (am_up μ 3 7 (nI (wr X i 3))) ν) else ∃ μ1 ν1, y = (some (.int (sB true)), am_hp n μ1 ν1) ∧ xTk μ1 ν1 X (i + 1) ∧ lawSt μ1 [] ∧ μ1 16 12 = nI 1 ∧ (∀ r k, ¬ (r = 3 ∧ 2 ≤ k) → ¬ (r = 16 ∧ k = 12) → ¬ (r = 24 ∧ k = 2) → μ1 r k = μ r k) ∧ frKL ν ν1
theorem s_begL (d : Nat) (n i : Nat) {X : tTp} {D : dft} {μ : am_M2} (ν : am_N2) (hX : tpOk X) (hT : xTk μ ν X i) (hL : xLg ν) (hD : xDf μ ν D) (hO : dOk D) : am_w (d + 5) (Option.some FieldType.boolean) am_g46 0 [some (.ref 16), some (.ref 3)] [] (am_hp n μ ν) (blQ X n i D μ ν) := by
  refine am_q_aload_n rfl rfl ?_
  refine am_q_gi rfl rfl rfl hD.1.2.2.2.2 ?_
  refine am_q_if_eqB rfl (fun c_4 => ?_) (fun c_4 => ?_)
  · refine am_q_aload_n rfl rfl ?_
    refine am_q_iconst (v := nI 1) rfl rfl ?_
    refine am_q_pi rfl rfl rfl (Or.inr ⟨rfl, by first | exact Or.inl rfl | exact Or.inr rfl⟩) ?_
    refine am_q_aload_n rfl rfl ?_
    refine am_q_gr rfl rfl rfl ?_
    refine am_q_call rfl rfl (s_beNothing _ n _ ν) rfl ?_
    refine am_q_aload_n rfl rfl ?_
    have hx : ∀ r k, ¬ (r = 16 ∧ k = 12) → ¬ (r = 24 ∧ k = 2) → (am_up (am_up μ 16 12 (nI 1)) 24 2 (nI 0)) r k = μ r k := fun r k z1 z2 => by rw [am_up_ne (by omega), am_up_ne (by omega)]
    obtain ⟨μ1, ν1, hc1, hT1, hf1, hl1⟩ := s_step (d + 1) n (i + 1) (μ := (am_up (am_up μ 16 12 (nI 1)) 24 2 (nI 0))) ν hX ⟨(hx 3 1 (by omega) (by omega)).trans hT.1.1, fun j hj => (hx 4 j (by omega) (by omega)).trans (hT.1.2 j hj)⟩ ((hx 3 2 (by omega) (by omega)).trans hT.2.1) hL
    refine am_q_call rfl rfl (hc1) rfl ?_
    refine am_q_iconst (v := nI 1) rfl rfl ?_
    refine am_q_ireturn rfl rfl rfl ?_
    unfold blQ
    rw [if_neg (by rw [c_4]; exact Bool.false_ne_true)]
    exact ⟨μ1, ν1, rfl, hT1, ⟨(hf1 24 2 (by omega)).trans am_up_eq, fun j hj => by cases hj⟩, (hf1 16 12 (by omega)).trans ((am_up_ne (by omega)).trans am_up_eq), fun r k z1 z2 z3 => (hf1 r k (by omega)).trans (hx r k z2 z3), hl1⟩
  · refine am_q_aload_n rfl rfl ?_
    refine am_q_iconst (v := nI 3) rfl rfl ?_
    refine am_q_call rfl rfl (s_wrong _ 3 n i ν hT.2.2.1) rfl ?_
    refine am_q_ireturn rfl rfl (sB_ok _) ?_
    unfold blQ
    rw [if_pos c_4]

def pLine (X : tTp) (i : Nat) (D : dft) : Nat ⊕ (Nat × dft) := if isWd X i 0 = true then pWall X i D else if isWd X i 1 = true then pSoul X i D else if isWd X i 4 = true then pHurts X i D else if isWd X i 5 = true then pFrost X i D else if isWd X i 6 = true then pLaw X i D else .inl (wr X i 1)
theorem wd_one {X : tTp} {i r r' : Nat} (hr : r < 18) (hr' : r' < 18) (h : isWd X i r = true) (hne : r ≠ r') : ¬ isWd X i r' = true := fun z => by have a := (tkc_w hr).mpr h; have b := (tkc_w hr').mpr z; omega
theorem ln_sw : ∀ c, c < 148 → am_tsw 4 95 128 134 [44, 50, 95, 95, 56, 62, 68] (nI c) = some (if c = 128 then 48 else if c = 129 then 54 else if c = 132 then 60 else if c = 133 then 66 else if c = 134 then 72 else 99) := by decide +kernel
theorem s_lnWall (d : Nat) (n i : Nat) {X : tTp} {D : dft} {μ : am_M2} (ν : am_N2) (hX : tpOk X) (hT : xTk μ ν X i) (hL : xLg ν) (hD : xDf μ ν D) (hO : dOk D) (hiT : i ≤ tN X) (hw : isWd X i 0 = true) : am_w (d + 43) (Option.some FieldType.boolean) am_g29 0 [some (.ref 16), some (.ref 3)] [] (am_hp n μ ν) (vlQ X n μ ν (pWall X i D)) := by
  have ht := tkc_148 X i
  have htk := (tkc_w (r := 0) (by decide)).mpr hw
  have hi1 := tN_s hiT (wd_k hw)
  refine am_q_aload_n rfl rfl ?_
  refine am_q_gi rfl rfl rfl hT.2.2.2.1 ?_
  refine am_q_tsw (t := 48) rfl ((ln_sw _ ht).trans (by rw [htk]; rfl)) ?_
  refine am_q_aload_n rfl rfl ?_
  refine am_q_aload_n rfl rfl ?_
  obtain ⟨y, hy, hq⟩ := am_run_wE (k := 30) (d := d + 42) (vs := [.ref 16, .ref 3]) rfl rfl (Nat.le_of_ble_eq_true rfl) [some (.ref 16), some (.ref 3)] rfl (s_wallL (d + 37) n i ν hX hT hL hD hO)
  unfold vlQ at hq ⊢
  cases hr : pWall X i D with
  | inl c =>
    rw [hr] at hq
    obtain ⟨μ2, ν2, N2, rfl, b1, b2, b3, b4, b5⟩ := hq
    refine am_q_call rfl rfl hy rfl ?_
    refine am_q_ireturn rfl rfl (sB_ok _) ?_
    exact ⟨μ2, ν2, N2, rfl, b1, b2, b3, b4, b5⟩
  | inr q =>
    rw [hr] at hq
    obtain ⟨μ2, ν2, rfl, b1, b2, b3, b4⟩ := hq
    refine am_q_call rfl rfl hy rfl ?_
    refine am_q_ireturn rfl rfl (sB_ok _) ?_
    exact ⟨μ2, ν2, rfl, b1, b2, b3, b4⟩

theorem s_lnSoul (d : Nat) (n i : Nat) {X : tTp} {D : dft} {μ : am_M2} (ν : am_N2) (hX : tpOk X) (hT : xTk μ ν X i) (hL : xLg ν) (hD : xDf μ ν D) (hO : dOk D) (hiT : i ≤ tN X) (hw : isWd X i 1 = true) : am_w (d + 43) (Option.some FieldType.boolean) am_g29 0 [some (.ref 16), some (.ref 3)] [] (am_hp n μ ν) (vlQ X n μ ν (pSoul X i D)) := by
  have ht := tkc_148 X i
  have htk := (tkc_w (r := 1) (by decide)).mpr hw
  have hi1 := tN_s hiT (wd_k hw)
  refine am_q_aload_n rfl rfl ?_
  refine am_q_gi rfl rfl rfl hT.2.2.2.1 ?_
  refine am_q_tsw (t := 54) rfl ((ln_sw _ ht).trans (by rw [htk]; rfl)) ?_
  refine am_q_aload_n rfl rfl ?_
  refine am_q_aload_n rfl rfl ?_
  obtain ⟨y, hy, hq⟩ := am_run_wE (k := 34) (d := d + 42) (vs := [.ref 16, .ref 3]) rfl rfl (Nat.le_of_ble_eq_true rfl) [some (.ref 16), some (.ref 3), none] rfl (s_soulL (d + 35) n i ν hX hT hL hD hO)
  unfold vlQ at hq ⊢
  cases hr : pSoul X i D with
  | inl c =>
    rw [hr] at hq
    obtain ⟨μ2, ν2, N2, rfl, b1, b2, b3, b4, b5⟩ := hq
    refine am_q_call rfl rfl hy rfl ?_
    refine am_q_ireturn rfl rfl (sB_ok _) ?_
    exact ⟨μ2, ν2, N2, rfl, b1, b2, b3, b4, b5⟩
  | inr q =>
    rw [hr] at hq
    obtain ⟨μ2, ν2, rfl, b1, b2, b3, b4⟩ := hq
    refine am_q_call rfl rfl hy rfl ?_
    refine am_q_ireturn rfl rfl (sB_ok _) ?_
    exact ⟨μ2, ν2, rfl, b1, b2, b3, b4⟩

theorem s_lnHurts (d : Nat) (n i : Nat) {X : tTp} {D : dft} {μ : am_M2} (ν : am_N2) (hX : tpOk X) (hT : xTk μ ν X i) (hL : xLg ν) (hD : xDf μ ν D) (hO : dOk D) (hiT : i ≤ tN X) (hw : isWd X i 4 = true) : am_w (d + 43) (Option.some FieldType.boolean) am_g29 0 [some (.ref 16), some (.ref 3)] [] (am_hp n μ ν) (vlQ X n μ ν (pHurts X i D)) := by
  have ht := tkc_148 X i
  have htk := (tkc_w (r := 4) (by decide)).mpr hw
  have hi1 := tN_s hiT (wd_k hw)
  refine am_q_aload_n rfl rfl ?_
  refine am_q_gi rfl rfl rfl hT.2.2.2.1 ?_
  refine am_q_tsw (t := 60) rfl ((ln_sw _ ht).trans (by rw [htk]; rfl)) ?_
  refine am_q_aload_n rfl rfl ?_
  refine am_q_aload_n rfl rfl ?_
  obtain ⟨y, hy, hq⟩ := am_run_wE (k := 40) (d := d + 42) (vs := [.ref 16, .ref 3]) rfl rfl (Nat.le_of_ble_eq_true rfl) [some (.ref 16), some (.ref 3), none, none] rfl (s_hurL (d + 36) n i ν hX hT hL hD hO)
  unfold vlQ at hq ⊢
  cases hr : pHurts X i D with
  | inl c =>
    rw [hr] at hq
    obtain ⟨μ2, ν2, N2, rfl, b1, b2, b3, b4, b5⟩ := hq
    refine am_q_call rfl rfl hy rfl ?_
    refine am_q_ireturn rfl rfl (sB_ok _) ?_
    exact ⟨μ2, ν2, N2, rfl, b1, b2, b3, b4, b5⟩
  | inr q =>
    rw [hr] at hq
    obtain ⟨μ2, ν2, rfl, b1, b2, b3, b4⟩ := hq
    refine am_q_call rfl rfl hy rfl ?_
    refine am_q_ireturn rfl rfl (sB_ok _) ?_
    exact ⟨μ2, ν2, rfl, b1, b2, b3, b4⟩

theorem s_lnFrost (d : Nat) (n i : Nat) {X : tTp} {D : dft} {μ : am_M2} (ν : am_N2) (hX : tpOk X) (hT : xTk μ ν X i) (hL : xLg ν) (hD : xDf μ ν D) (hO : dOk D) (hiT : i ≤ tN X) (hw : isWd X i 5 = true) : am_w (d + 43) (Option.some FieldType.boolean) am_g29 0 [some (.ref 16), some (.ref 3)] [] (am_hp n μ ν) (vlQ X n μ ν (pFrost X i D)) := by
  have ht := tkc_148 X i
  have htk := (tkc_w (r := 5) (by decide)).mpr hw
  have hi1 := tN_s hiT (wd_k hw)
  refine am_q_aload_n rfl rfl ?_
  refine am_q_gi rfl rfl rfl hT.2.2.2.1 ?_
  refine am_q_tsw (t := 66) rfl ((ln_sw _ ht).trans (by rw [htk]; rfl)) ?_
  refine am_q_aload_n rfl rfl ?_
  refine am_q_aload_n rfl rfl ?_
  obtain ⟨y, hy, hq⟩ := am_run_wE (k := 44) (d := d + 42) (vs := [.ref 16, .ref 3]) rfl rfl (Nat.le_of_ble_eq_true rfl) [some (.ref 16), some (.ref 3), none, none] rfl (s_froL (d + 36) n i ν hX hT hL hD hO)
  unfold vlQ at hq ⊢
  cases hr : pFrost X i D with
  | inl c =>
    rw [hr] at hq
    obtain ⟨μ2, ν2, N2, rfl, b1, b2, b3, b4, b5⟩ := hq
    refine am_q_call rfl rfl hy rfl ?_
    refine am_q_ireturn rfl rfl (sB_ok _) ?_
    exact ⟨μ2, ν2, N2, rfl, b1, b2, b3, b4, b5⟩
  | inr q =>
    rw [hr] at hq
    obtain ⟨μ2, ν2, rfl, b1, b2, b3, b4⟩ := hq
    refine am_q_call rfl rfl hy rfl ?_
    refine am_q_ireturn rfl rfl (sB_ok _) ?_
    exact ⟨μ2, ν2, rfl, b1, b2, b3, b4⟩

theorem s_lnLaw (d : Nat) (n i : Nat) {X : tTp} {D : dft} {μ : am_M2} (ν : am_N2) (hX : tpOk X) (hT : xTk μ ν X i) (hL : xLg ν) (hD : xDf μ ν D) (hO : dOk D) (hiT : i ≤ tN X) (hw : isWd X i 6 = true) : am_w (d + 43) (Option.some FieldType.boolean) am_g29 0 [some (.ref 16), some (.ref 3)] [] (am_hp n μ ν) (vlQ X n μ ν (pLaw X i D)) := by
  have ht := tkc_148 X i
  have htk := (tkc_w (r := 6) (by decide)).mpr hw
  have hi1 := tN_s hiT (wd_k hw)
  have hN6 := hO.1.1
  refine am_q_aload_n rfl rfl ?_
  refine am_q_gi rfl rfl rfl hT.2.2.2.1 ?_
  refine am_q_tsw (t := 72) rfl ((ln_sw _ ht).trans (by rw [htk]; rfl)) ?_
  refine am_q_aload_n rfl rfl ?_
  refine am_q_aload_n rfl rfl ?_
  obtain ⟨y, hy, hq⟩ := am_run_wE (k := 46) (d := d + 42) (vs := [.ref 16, .ref 3]) rfl rfl (Nat.le_of_ble_eq_true rfl) [some (.ref 16), some (.ref 3)] rfl (s_begL (d + 37) n i ν hX hT hL hD hO)
  unfold pLaw
  unfold blQ at hq
  by_cases hlt : D.2.2 = true
  · rw [if_pos hlt] at hq
    rw [if_pos hlt]
    subst hq
    refine am_q_call rfl rfl hy rfl ?_
    refine am_q_if_eqB rfl (fun _ => ?_) (fun c => by cases c)
    refine am_q_iconst (v := nI 0) rfl rfl ?_
    refine am_q_ireturn rfl rfl rfl ?_
    exact vl_wr hD.1.2.1 hN6 (frVd_rf μ) (frVL_rf ν)
  · rw [if_neg hlt] at hq
    rw [if_neg hlt]
    obtain ⟨μ1, ν1, rfl, hT1, hS1, g12, g, hl1⟩ := hq
    refine am_q_call rfl rfl hy rfl ?_
    refine am_q_if_eqB rfl (fun c => by cases c) (fun _ => ?_)
    refine am_q_aload_n rfl rfl ?_
    refine am_q_gr rfl rfl rfl ?_
    refine am_q_aload_n rfl rfl ?_
    refine am_q_iconst (v := nI 0) rfl rfl ?_
    refine am_q_iconst (v := nI 0) rfl rfl ?_
    obtain ⟨y, hy, hq⟩ := lwC_whole hX n (d + 2) (i + 1) [] μ1 ν1 hT1 (xLg_S hl1 hL) hS1 (Nat.zero_le _) hi1
    cases hr : lv0 X (pPart X 5) (i + 1) [] with
    | inl c =>
      rw [hr] at hq
      obtain ⟨μ2, ν2, L2, rfl, b1, b2, b3, b4, b5⟩ := hq
      refine am_q_call rfl rfl hy rfl ?_
      refine am_q_if_eqB rfl (fun _ => ?_) (fun c => by cases c)
      refine am_q_iconst (v := nI 0) rfl rfl ?_
      refine am_q_ireturn rfl rfl rfl ?_
      exact ⟨_, _, vN D.1, rfl, b1, (b4 16 9 (by omega) (by omega) (by omega)).trans ((g 16 9 (by omega) (by omega) (by omega)).trans hD.1.2.1), hN6, fun r k z1 z2 => (b4 r k z1 (by omega) (by omega)).trans (g r k z1 (by omega) (by omega)), frVL_3 (frKL_tr hl1 b5)⟩
    | inr q =>
      rw [hr] at hq
      obtain ⟨μ2, ν2, rfl, b1, b2, b3, b4⟩ := hq
      refine am_q_call rfl rfl hy rfl ?_
      refine am_q_if_eqB rfl (fun c => by cases c) (fun _ => ?_)
      refine am_q_iconst (v := nI 1) rfl rfl ?_
      refine am_q_goto rfl ?_
      refine am_q_ireturn rfl rfl rfl ?_
      have g2 : ∀ r k, ¬ (r = 3 ∧ 2 ≤ k) → ¬ (r = 16 ∧ k = 12) → ¬ (r = 24 ∧ k = 2) → r ≠ 25 → μ2 r k = μ r k := fun r k z1 z2 z3 z4 => (b3 r k z1 z3 z4).trans (g r k z1 z2 z3)
      refine ⟨_, _, rfl, b1, ⟨⟨?_, ?_, ?_, ?_, ?_⟩, fun s hs => ?_, fun s hs => ?_, fun j hj => ?_, b2⟩, fun r k z1 z2 => g2 r k z1 (by omega) (by omega) (by omega), frVL_3 (frKL_tr hl1 b4)⟩
      · exact (g2 16 8 (by omega) (by omega) (by omega) (by omega)).trans hD.1.1
      · exact (g2 16 9 (by omega) (by omega) (by omega) (by omega)).trans hD.1.2.1
      · exact (g2 16 10 (by omega) (by omega) (by omega) (by omega)).trans hD.1.2.2.1
      · exact (g2 16 11 (by omega) (by omega) (by omega) (by omega)).trans hD.1.2.2.2.1
      · exact (b3 16 12 (by omega) (by omega) (by omega)).trans g12
      · rw [g2 18 s (by omega) (by omega) (by omega) (by omega), g2 19 s (by omega) (by omega) (by omega) (by omega), g2 20 s (by omega) (by omega) (by omega) (by omega), g2 21 s (by omega) (by omega) (by omega) (by omega), (b4 17 s (by omega)).trans (hl1 17 s (by omega))]; exact hD.2.1 s hs
      · rw [g2 22 s (by omega) (by omega) (by omega) (by omega)]; exact hD.2.2.1 s hs
      · rw [g2 23 j (by omega) (by omega) (by omega) (by omega)]; exact hD.2.2.2.1 j hj

theorem s_lnX (d : Nat) (n i : Nat) {X : tTp} {D : dft} {μ : am_M2} (ν : am_N2) (hX : tpOk X) (hT : xTk μ ν X i) (hL : xLg ν) (hD : xDf μ ν D) (hO : dOk D) (h0 : ¬ isWd X i 0 = true) (h1 : ¬ isWd X i 1 = true) (h4 : ¬ isWd X i 4 = true) (h5 : ¬ isWd X i 5 = true) (h6 : ¬ isWd X i 6 = true) : am_w (d + 43) (Option.some FieldType.boolean) am_g29 0 [some (.ref 16), some (.ref 3)] [] (am_hp n μ ν) (vlQ X n μ ν (.inl (wr X i 1))) := by
  have ht := tkc_148 X i
  have hN6 := hO.1.1
  refine am_q_aload_n rfl rfl ?_
  refine am_q_gi rfl rfl rfl hT.2.2.2.1 ?_
  refine am_q_tsw (t := 99) rfl ((ln_sw _ ht).trans (by rw [if_neg (fun z => h0 ((tkc_w (r := 0) (by decide)).mp z)), if_neg (fun z => h1 ((tkc_w (r := 1) (by decide)).mp z)), if_neg (fun z => h4 ((tkc_w (r := 4) (by decide)).mp z)), if_neg (fun z => h5 ((tkc_w (r := 5) (by decide)).mp z)), if_neg (fun z => h6 ((tkc_w (r := 6) (by decide)).mp z))])) ?_
  refine am_q_aload_n rfl rfl ?_
  refine am_q_iconst (v := nI 1) rfl rfl ?_
  refine am_q_call rfl rfl (s_wrong _ 1 n i ν hT.2.2.1) rfl ?_
  refine am_q_ireturn rfl rfl (sB_ok _) ?_
  exact vl_wr hD.1.2.1 hN6 (frVd_rf μ) (frVL_rf ν)

theorem s_readLine (d : Nat) (n i : Nat) {X : tTp} {D : dft} {μ : am_M2} (ν : am_N2) (hX : tpOk X) (hT : xTk μ ν X i) (hL : xLg ν) (hD : xDf μ ν D) (hO : dOk D) (hiT : i ≤ tN X) : ∃ y, am_run (d + 44) 29 [.ref 16, .ref 3] (am_hp n μ ν) = some y ∧ vlQ X n μ ν (pLine X i D) y := by
  refine am_run_wE (k := 29) (d := d + 43) rfl rfl (Nat.le_of_ble_eq_true rfl) [some (.ref 16), some (.ref 3)] rfl ?_
  unfold pLine
  by_cases h0 : isWd X i 0 = true
  · rw [if_pos h0]; exact s_lnWall d n i ν hX hT hL hD hO hiT h0
  · rw [if_neg h0]
    by_cases h1 : isWd X i 1 = true
    · rw [if_pos h1]; exact s_lnSoul d n i ν hX hT hL hD hO hiT h1
    · rw [if_neg h1]
      by_cases h4 : isWd X i 4 = true
      · rw [if_pos h4]; exact s_lnHurts d n i ν hX hT hL hD hO hiT h4
      · rw [if_neg h4]
        by_cases h5 : isWd X i 5 = true
        · rw [if_pos h5]; exact s_lnFrost d n i ν hX hT hL hD hO hiT h5
        · rw [if_neg h5]
          by_cases h6 : isWd X i 6 = true
          · rw [if_pos h6]; exact s_lnLaw d n i ν hX hT hL hD hO hiT h6
          · rw [if_neg h6]; exact s_lnX d n i ν hX hT hL hD hO h0 h1 h4 h5 h6