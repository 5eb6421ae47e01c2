theorem fup_eq {α : Type} (f : Nat → α) (k : Nat) (v : α) : fup f k v k = v := if_pos rfl
theorem fup_ne {α : Type} {f : Nat → α} {k j : Nat} {v : α} (h : j ≠ k) : fup f k v j = f j := if_neg h
theorem am_pm1 {v : Nat} (h : v < 2 ^ 31) : ¬ nI v = -1 := fun z => absurd (show nI v < 0 by rw [z]; decide) (nI_pos h)
theorem s_soC (d n k s : Nat) (v : Int32) {N : Nat} (h6 : N < 6) (hk3 : k ≤ 3) (μ : am_M2) (ν : am_N2) (h18 : μ 18 N = nI k) (h19 : μ 19 N = nI s) (h9 : μ 16 9 = nI N) (Q : am_R → Prop) (K0 : v = -1 → Q (some (.int (sB false)), am_hp n (am_up (am_up (am_up μ 20 N v) 21 N (nI (sWt k s))) 16 9 (nI (N + 1))) ν)) (K1 : ¬ v = -1 → Q (some (.int (sB true)), am_hp n (am_up (am_up (am_up μ 20 N v) 21 N (nI (sWt k s))) 16 9 (nI (N + 1))) ν)) : am_w (d + 7) (Option.some FieldType.boolean) am_g34 101 [some (.ref 16), some (.ref 3), some (.int (nI N))] [.int v, .int (nI N), .ref 20] (am_hp n μ ν) (Q) := by
  refine am_q_iast rfl rfl (by first | exact am_ix_nI (by omega) (by omega) | rfl) rfl ?_
  refine am_q_aload_n rfl rfl ?_
  refine am_q_gr rfl rfl rfl ?_
  refine am_q_iload_n rfl rfl ?_
  refine am_q_aload_n rfl rfl ?_
  refine am_q_gr rfl rfl rfl ?_
  refine am_q_iload_n rfl rfl ?_
  refine am_q_iald rfl rfl (by first | exact am_ix_nI (by omega) (by omega) | rfl) (show _ = nI k from (am_up_ne (by omega)).trans h18) ?_
  refine am_q_aload_n rfl rfl ?_
  refine am_q_gr rfl rfl rfl ?_
  refine am_q_iload_n rfl rfl ?_
  refine am_q_iald rfl rfl (by first | exact am_ix_nI (by omega) (by omega) | rfl) (show _ = nI s from (am_up_ne (by omega)).trans h19) ?_
  refine am_q_call rfl rfl (s_weightOf _ k s hk3 _) rfl ?_
  refine am_q_iast rfl rfl (by first | exact am_ix_nI (by omega) (by omega) | rfl) rfl ?_
  refine am_q_aload_n rfl rfl ?_
  refine am_q_dupr rfl ?_
  refine am_q_gi rfl rfl rfl (show _ = nI N from by rw [am_up_ne (by omega), am_up_ne (by omega)]; exact h9) ?_
  refine am_q_iconst (v := nI 1) rfl rfl ?_
  refine am_q_iadd rfl (nI_add _ _) ?_
  refine am_q_pi rfl rfl rfl (Or.inl rfl) ?_
  refine am_q_aload_n rfl rfl ?_
  refine am_q_gr rfl rfl rfl ?_
  refine am_q_iload_n rfl rfl ?_
  refine am_q_iald rfl rfl (by first | exact am_ix_nI (by omega) (by omega) | rfl) (show _ = v from by rw [am_up_ne (by omega), am_up_ne (by omega), am_up_eq]) ?_
  refine am_q_iconst (v := -1) rfl rfl ?_
  refine am_q_icmp_eq rfl (fun c_140 => ?_) (fun c_140 => ?_)
  · refine am_q_iconst (v := nI 0) rfl rfl ?_
    refine am_q_ireturn rfl rfl rfl ?_
    exact K0 c_140
  · refine am_q_iconst (v := nI 1) rfl rfl ?_
    refine am_q_goto rfl ?_
    refine am_q_ireturn rfl rfl rfl ?_
    exact K1 c_140

theorem s_soB (d : Nat) (n i : Nat) {X : tTp} {D : dft} {μ : am_M2} (ν : am_N2) (hX : tpOk X) (hT : xTk μ ν X i) (hL : xLg ν) (hD : xDf μ ν D) (hO : dOk D) (μ1 : am_M2) (ν1 : am_N2) (k : Nat) (h6 : vN D.1 < 6) (hm : isNm X (i + 1) = true) (hf : (fnd D.2.1 (vN D.1) (wd X (i + 1))).isSome = false) (hk : isKd X (i + 2) = some k) (h2 : isWd X (i + 3) 2 = true) (hT1 : xTk μ1 ν1 X (i + 4)) (f1 : ∀ a b, ¬ (a = 3 ∧ 2 ≤ b) → ¬ (a = 18 ∧ b = vN D.1) → μ1 a b = μ a b) (g1 : μ1 18 (vN D.1) = nI k) (f2 : ∀ a b, ¬ (a = 3 ∧ b = 6) → ¬ (a = 17 ∧ b = vN D.1) → ν1 a b = ν a b) (g2 : ν1 17 (vN D.1) = lN (wd X (i + 1))) : am_w (d + 7) (Option.some FieldType.boolean) am_g34 54 [some (.ref 16), some (.ref 3), some (.int (nI (vN D.1)))] [] (am_hp n μ1 ν1) (vlQ X n μ ν (pSoul X i D)) := by
  have hN6 := hO.1.1
  have hk3 := (isKd_s hk).2
  have hL1 : xLg ν1 := fun r hr => (f2 1 r (by omega) (by omega)).trans (hL r hr)
  have hVL1 : frVL ν ν1 := fun a b z1 z2 => f2 a b z1 (by omega)
  refine am_q_aload_n rfl rfl ?_
  refine am_q_gr rfl rfl rfl ?_
  refine am_q_iload_n rfl rfl ?_
  refine am_q_aload_n rfl rfl ?_
  refine am_q_iconst (v := nI 0) rfl rfl ?_
  refine am_q_bipush (v := nI 20) rfl rfl ?_
  cases hr : pNumI X (i + 4) 0 (nI 20) with
  | inl c =>
    obtain ⟨μ2, hc2, e2, h7⟩ := s_passN0 (d + 2) (nI 20) n (i + 4) ν1 hX hT1 hL1 0 (by decide) c hr
    have hp : pSoul X i D = .inl c := by unfold pSoul; rw [if_neg (by omega), if_neg (by rw [hm]; decide), if_neg (by rw [hf]; decide), hk]; simp only; rw [if_neg (by rw [h2]; decide), ← pNumI_N (by decide), hr]
    rw [hp]
    refine am_q_call rfl rfl hc2 rfl ?_
    refine am_q_iast rfl rfl (am_ix_nI h6 (by decide)) rfl ?_
    refine am_q_aload_n rfl rfl ?_
    refine am_q_gr rfl rfl rfl ?_
    refine am_q_iload_n rfl rfl ?_
    refine am_q_iald rfl rfl (am_ix_nI h6 (by decide)) (show _ = (-1 : Int32) from am_up_eq) ?_
    refine am_q_iconst (v := -1) rfl rfl ?_
    refine am_q_icmp_eq rfl (fun _ => ?_) (fun c => absurd rfl c)
    refine am_q_iconst (v := nI 0) rfl rfl ?_
    refine am_q_ireturn rfl rfl rfl ?_
    exact ⟨_, _, vN D.1, rfl, (am_up_ne (by omega)).trans h7, (am_up_ne (by omega)).trans ((e2 16 9 (by omega)).trans ((f1 16 9 (by omega) (by omega)).trans hD.1.2.1)), hN6, fun a b z1 z2 => (am_up_ne (by omega)).trans ((e2 a b z1).trans (f1 a b z1 (by omega))), hVL1⟩
  | inr s =>
  obtain ⟨μ2, ν2, hc2, hT2, e2, l2, hsv, hs4⟩ := s_passN1 (d + 2) (nI 20) n (i + 4) ν1 hX hT1 hL1 0 (by decide) s hr
  have hp20 : pNum X (i + 4) 0 20 = .inr s := by rw [← pNumI_N (by decide), hr]
  have hs20 := (pN_in hp20).2
  have hL2 := xLg_S l2 hL1
  have hT2' : xTk (am_up μ2 19 (vN D.1) (nI s)) ν2 X (i + 5) := xTk_up (by decide) hT2
  refine am_q_call rfl rfl hc2 rfl ?_
  refine am_q_iast rfl rfl (am_ix_nI h6 (by decide)) rfl ?_
  refine am_q_aload_n rfl rfl ?_
  refine am_q_gr rfl rfl rfl ?_
  refine am_q_iload_n rfl rfl ?_
  refine am_q_iald rfl rfl (am_ix_nI h6 (by decide)) (show _ = nI s from am_up_eq) ?_
  refine am_q_iconst (v := -1) rfl rfl ?_
  refine am_q_icmp_eq rfl (fun c => absurd c (am_pm1 (by omega))) (fun _ => ?_)
  refine am_q_aload_n rfl rfl ?_
  refine am_q_sipush (v := nI 131) rfl rfl ?_
  cases h131 : isWd X (i + 5) 3 with
  | false =>
    have hp : pSoul X i D = .inl (wr X (i + 5) 1) := by unfold pSoul; rw [if_neg (by omega), if_neg (by rw [hm]; decide), if_neg (by rw [hf]; decide), hk]; simp only; rw [if_neg (by rw [h2]; decide), hp20]; simp only; rw [if_pos h131]
    rw [hp]
    refine am_q_call rfl rfl (s_pass0 (d + 2) 131 (by decide) n (i + 5) ν2 hX hT2' hL2 (isWd_c (r := 3) (by decide) h131)) rfl ?_
    refine am_q_if_neB rfl (fun c => by cases c) (fun _ => ?_)
    refine am_q_iconst (v := nI 0) rfl rfl ?_
    refine am_q_ireturn rfl rfl rfl ?_
    exact vl_wr ((am_up_ne (by omega)).trans ((e2 16 9 (by omega)).trans ((f1 16 9 (by omega) (by omega)).trans hD.1.2.1))) hN6 (fun a b z1 z2 => (am_up_ne (by omega)).trans ((e2 a b (by omega)).trans (f1 a b z1 (by omega)))) (frVL_tr hVL1 (frVL_3 l2))
  | true =>
  obtain ⟨μ3, ν3, hc3, hT3, e3, l3⟩ := s_pass1 (d + 2) 131 (by decide) n (i + 5) ν2 hX hT2' hL2 ((tkc_w (r := 3) (by decide)).mpr h131)
  have hL3 := xLg_S l3 hL2
  refine am_q_call rfl rfl hc3 rfl ?_
  refine am_q_if_neB rfl (fun _ => ?_) (fun c => by cases c)
  refine am_q_aload_n rfl rfl ?_
  refine am_q_gr rfl rfl rfl ?_
  refine am_q_iload_n rfl rfl ?_
  refine am_q_aload_n rfl rfl ?_
  refine am_q_iconst (v := nI 0) rfl rfl ?_
  refine am_q_bipush (v := nI 60) rfl rfl ?_
  have hVL3 := frVL_tr hVL1 (frVL_3 (frKL_tr l2 l3))
  have hm3 : ∀ a b, ¬ (a = 3 ∧ 2 ≤ b) → ¬ (a = 18 ∧ b = vN D.1) → ¬ (a = 19 ∧ b = vN D.1) → μ3 a b = μ a b := fun a b z1 z2 z3 => (e3 a b (by omega)).trans ((am_up_ne (by omega)).trans ((e2 a b (by omega)).trans (f1 a b z1 z2)))
  have h18 : μ3 18 (vN D.1) = nI k := (e3 18 _ (by omega)).trans ((am_up_ne (by omega)).trans ((e2 18 _ (by omega)).trans g1))
  have h19 : μ3 19 (vN D.1) = nI s := (e3 19 _ (by omega)).trans am_up_eq
  have h17 : ν3 17 (vN D.1) = lN (wd X (i + 1)) := (l3 17 _ (by omega)).trans ((l2 17 _ (by omega)).trans g2)
  have hv3 : ∀ a b, ¬ (a = 3 ∧ b = 6) → ¬ (a = 17 ∧ b = vN D.1) → ν3 a b = ν a b := fun a b z1 z2 => (l3 a b z1).trans ((l2 a b z1).trans (f2 a b z1 z2))
  cases hr3 : pNumI X (i + 6) 0 (nI 60) with
  | inl c =>
    obtain ⟨μ4, hc4, e4, h7⟩ := s_passN0 (d + 2) (nI 60) n (i + 6) ν3 hX hT3 hL3 0 (by decide) c hr3
    have hp : pSoul X i D = .inl c := by unfold pSoul; rw [if_neg (by omega), if_neg (by rw [hm]; decide), if_neg (by rw [hf]; decide), hk]; simp only; rw [if_neg (by rw [h2]; decide), hp20]; simp only; rw [if_neg (by rw [h131]; decide), ← pNumI_N (by decide), hr3]
    rw [hp]
    refine am_q_call rfl rfl hc4 rfl ?_
    refine s_soC d n k s (-1) h6 hk3 μ4 ν3 ((e4 18 _ (by omega)).trans h18) ((e4 19 _ (by omega)).trans h19) ((e4 16 9 (by omega)).trans ((hm3 16 9 (by omega) (by omega) (by omega)).trans hD.1.2.1)) _ (fun _ => ?_) (fun z => absurd rfl z)
    exact ⟨_, _, vN D.1 + 1, rfl, by rw [am_up_ne (by omega), am_up_ne (by omega), am_up_ne (by omega)]; exact h7, am_up_eq, by omega, fun a b z1 z2 => by rw [am_up_ne (by omega), am_up_ne (by omega), am_up_ne (by omega)]; exact (e4 a b z1).trans (hm3 a b z1 (by omega) (by omega)), hVL3⟩
  | inr t =>
    obtain ⟨μ4, ν4, hc4, hT4, e4, l4, htv, ht4⟩ := s_passN1 (d + 2) (nI 60) n (i + 6) ν3 hX hT3 hL3 0 (by decide) t hr3
    have hp60 : pNum X (i + 6) 0 60 = .inr t := by rw [← pNumI_N (by decide), hr3]
    have hp : pSoul X i D = .inr (i + 7, dS D (wd X (i + 1)) k s t) := by unfold pSoul; rw [if_neg (by omega), if_neg (by rw [hm]; decide), if_neg (by rw [hf]; decide), hk]; simp only; rw [if_neg (by rw [h2]; decide), hp20]; simp only; rw [if_neg (by rw [h131]; decide), hp60]
    rw [hp]
    refine am_q_call rfl rfl hc4 rfl ?_
    refine s_soC d n k s (nI t) h6 hk3 μ4 ν4 ((e4 18 _ (by omega)).trans h18) ((e4 19 _ (by omega)).trans h19) ((e4 16 9 (by omega)).trans ((hm3 16 9 (by omega) (by omega) (by omega)).trans hD.1.2.1)) _ (fun z => absurd z (am_pm1 (by omega))) (fun _ => ?_)
    have hx : ∀ a b, ¬ (a = 20 ∧ b = vN D.1) → ¬ (a = 21 ∧ b = vN D.1) → ¬ (a = 16 ∧ b = 9) → am_up (am_up (am_up μ4 20 (vN D.1) (nI t)) 21 (vN D.1) (nI (sWt k s))) 16 9 (nI (vN D.1 + 1)) a b = μ4 a b := fun a b z1 z2 z3 => by rw [am_up_ne (by omega), am_up_ne (by omega), am_up_ne (by omega)]
    have hm4 : ∀ a b, ¬ (a = 3 ∧ 2 ≤ b) → ¬ (a = 18 ∧ b = vN D.1) → ¬ (a = 19 ∧ b = vN D.1) → ¬ (a = 20 ∧ b = vN D.1) → ¬ (a = 21 ∧ b = vN D.1) → ¬ (a = 16 ∧ b = 9) → am_up (am_up (am_up μ4 20 (vN D.1) (nI t)) 21 (vN D.1) (nI (sWt k s))) 16 9 (nI (vN D.1 + 1)) a b = μ a b := fun a b z1 z2 z3 z4 z5 z6 => (hx a b z4 z5 z6).trans ((e4 a b (by omega)).trans (hm3 a b z1 z2 z3))
    refine ⟨_, _, rfl, xTk_c (fun a b z => hx a b (by omega) (by omega) (by omega)) rfl hT4, ⟨⟨?_, ?_, ?_, ?_, ?_⟩, fun s' hs' => ?_, fun s' hs' => ?_, fun j hj => ?_, ?_, fun j hj => ?_⟩, fun a b z1 z2 => hm4 a b z1 (by omega) (by omega) (by omega) (by omega) (by omega), frVL_tr hVL3 (frVL_3 l4)⟩
    · exact (hm4 16 8 (by omega) (by omega) (by omega) (by omega) (by omega) (by omega)).trans hD.1.1
    · exact am_up_eq
    · exact (hm4 16 10 (by omega) (by omega) (by omega) (by omega) (by omega) (by omega)).trans hD.1.2.2.1
    · exact (hm4 16 11 (by omega) (by omega) (by omega) (by omega) (by omega) (by omega)).trans hD.1.2.2.2.1
    · exact (hm4 16 12 (by omega) (by omega) (by omega) (by omega) (by omega) (by omega)).trans hD.1.2.2.2.2
    · have hs' : s' < vN D.1 + 1 := hs'
      by_cases e : s' = vN D.1
      · subst e
        refine ⟨?_, ?_, ?_, ?_, ?_⟩
        · show _ = nI (fup (vK D.1) (vN D.1) k (vN D.1)); rw [fup_eq, hx _ _ (by omega) (by omega) (by omega)]; exact (e4 18 _ (by omega)).trans h18
        · show _ = nI (fup (vS D.1) (vN D.1) s (vN D.1)); rw [fup_eq, hx _ _ (by omega) (by omega) (by omega)]; exact (e4 19 _ (by omega)).trans h19
        · show _ = nI (fup (vD D.1) (vN D.1) t (vN D.1)); rw [fup_eq, am_up_ne (by omega), am_up_ne (by omega), am_up_eq]
        · show _ = nI (sWt (fup (vK D.1) (vN D.1) k (vN D.1)) (fup (vS D.1) (vN D.1) s (vN D.1))); rw [fup_eq, fup_eq, am_up_ne (by omega), am_up_eq]
        · show _ = lN (fup D.2.1 (vN D.1) (wd X (i + 1)) (vN D.1)); rw [fup_eq]; exact (l4 17 _ (by omega)).trans h17
      · have b1 := hD.2.1 s' (by omega)
        show _ = nI (fup (vK D.1) (vN D.1) k s') ∧ _ = nI (fup (vS D.1) (vN D.1) s s') ∧ _ = nI (fup (vD D.1) (vN D.1) t s') ∧ _ = nI (sWt (fup (vK D.1) (vN D.1) k s') (fup (vS D.1) (vN D.1) s s')) ∧ _ = lN (fup D.2.1 (vN D.1) (wd X (i + 1)) s')
        rw [fup_ne e, fup_ne e, fup_ne e, fup_ne e, hm4 18 s' (by omega) (by omega) (by omega) (by omega) (by omega) (by omega), hm4 19 s' (by omega) (by omega) (by omega) (by omega) (by omega) (by omega), hm4 20 s' (by omega) (by omega) (by omega) (by omega) (by omega) (by omega), hm4 21 s' (by omega) (by omega) (by omega) (by omega) (by omega) (by omega), (l4 17 s' (by omega)).trans (hv3 17 s' (by omega) (by omega))]
        exact b1
    · rw [hm4 22 s' (by omega) (by omega) (by omega) (by omega) (by omega) (by omega)]; exact hD.2.2.1 s' hs'
    · rw [hm4 23 j (by omega) (by omega) (by omega) (by omega) (by omega) (by omega)]; exact hD.2.2.2.1 j hj
    · rw [hm4 24 2 (by omega) (by omega) (by omega) (by omega) (by omega) (by omega)]; exact hD.2.2.2.2.1
    · rw [hm4 25 j (by omega) (by omega) (by omega) (by omega) (by omega) (by omega)]; exact hD.2.2.2.2.2 j hj

theorem s_soulL (d : Nat) (n i : Nat) {X : tTp} {D : dft} {μ : am_M2} (ν : am_N2) (hX : tpOk X) (hT : xTk μ ν X i) (hL : xLg ν) (hD : xDf μ ν D) (hO : dOk D) : am_w (d + 7) (Option.some FieldType.boolean) am_g34 0 [some (.ref 16), some (.ref 3), none] [] (am_hp n μ ν) (vlQ X n μ ν (pSoul X i D)) :=
  s_soA d n i ν hX hT hL hD hO (fun μ1 ν1 k h6 hm hf hk h2 hT1 f1 g1 f2 g2 => s_soB d n i ν hX hT hL hD hO μ1 ν1 k h6 hm hf hk h2 hT1 f1 g1 f2 g2)