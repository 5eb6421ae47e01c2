def dH (D : dft) (a b : Nat) : dft := ((vN D.1, vP D.1, vQ D.1 + 1, vF D.1, vK D.1, vS D.1, vD D.1, fup (fup (vH D.1) a (vH D.1 a ||| 2 ^ b)) b (vH D.1 b ||| 2 ^ a), vR D.1, vL D.1), D.2)
def pHurts (X : tTp) (i : Nat) (D : dft) : Nat ⊕ (Nat × dft) := match pTold X D.2.1 (vN D.1) (i + 1) with
  | .inl c => .inl c
  | .inr a => (match pTold X D.2.1 (vN D.1) (i + 2) with
    | .inl c => .inl c
    | .inr b => if b = a ∨ (vH D.1 a).testBit b = true then .inl (wr X (i + 2) 3) else .inr (i + 3, dH D a b))
def dF (D : dft) (v : Nat) : dft := ((vN D.1, vP D.1, vQ D.1, vF D.1 + 1, vK D.1, vS D.1, vD D.1, vH D.1, fup (vR D.1) (vF D.1) v, vL D.1), D.2)
def pCold (X : tTp) (j : Nat) (D : dft) : Nat ⊕ (Nat × dft) := match pNum X j 0 9 with
  | .inl c => .inl c
  | .inr v => if 12 ≤ vF D.1 then .inl (wr X j 5) else .inr (j + 1, dF D v)
def pFrL (X : tTp) : Nat → Nat → dft → Nat ⊕ (Nat × dft)
  | 0, j, D => .inr (j, D)
  | m + 1, j, D => if kd X j = 3 then (match pCold X j D with
    | .inl c => .inl c
    | .inr q => pFrL X m q.1 q.2) else .inr (j, D)
def pFrost (X : tTp) (i : Nat) (D : dft) : Nat ⊕ (Nat × dft) := if 0 < vF D.1 then .inl (wr X i 3) else (match pCold X (i + 1) D with
  | .inl c => .inl c
  | .inr q => pFrL X 1000 q.1 q.2)
def dL (D : dft) (p : List Int) : dft := ((vN D.1, vP D.1, vQ D.1, vF D.1, vK D.1, vS D.1, vD D.1, vH D.1, vR D.1, p), D.2.1, true)
def pLaw (X : tTp) (i : Nat) (D : dft) : Nat ⊕ (Nat × dft) := if D.2.2 = true then .inl (wr X i 3) else (match lv0 X (pPart X 5) (i + 1) [] with
  | .inl c => .inl c
  | .inr q => .inr (q.1, dL D q.2))
theorem vlQ_tr {X : tTp} {n : Nat} {μ μ1 : am_M2} {ν ν1 : am_N2} {r : Nat ⊕ (Nat × dft)} {y : am_R} (h : frVd μ μ1) (hl : frVL ν ν1) (hq : vlQ X n μ1 ν1 r y) : vlQ X n μ ν r y := by
  unfold vlQ at hq ⊢
  cases r with
  | inl c => obtain ⟨μ', ν', L, a, b, c, d, e, f⟩ := hq; exact ⟨μ', ν', L, a, b, c, d, frVd_tr h e, frVL_tr hl f⟩
  | inr q => obtain ⟨μ', ν', a, b, c, e, f⟩ := hq; exact ⟨μ', ν', a, b, c, frVd_tr h e, frVL_tr hl f⟩
theorem xDf_up {μ : am_M2} {ν : am_N2} {D D' : dft} {a k : Nat} {v : Int32} (h : xDf μ ν D) : True := trivial
theorem s_hurT (d n a b i2 : Nat) {X : tTp} {D : dft} {μ μ2 : am_M2} {ν ν2 : am_N2} (hX : tpOk X) (hT2 : xTk μ2 ν2 X i2) (hL2 : xLg ν2) (hD2 : xDf μ2 ν2 D) (hO : dOk D) (haN : a < vN D.1) (hbN : b < vN D.1) (hfr2 : frVd μ μ2) (hfl2 : frVL ν ν2) : am_w (d + 6) (Option.some FieldType.boolean) am_g40 30 [some (.ref 16), some (.ref 3), some (.int (nI a)), some (.int (nI b))] [] (am_hp n μ2 ν2) (vlQ X n μ ν (if b = a ∨ (vH D.1 a).testBit b = true then .inl (wr X i2 3) else .inr (i2 + 1, dH D a b))) := by
  have hN6 := hO.1.1
  have hHa := hO.2.2.1 a
  have hHb := hO.2.2.1 b
  have h2a : 2 ^ a < 64 := Nat.pow_lt_pow_right (by decide) (show a < 6 by omega)
  have h2b : 2 ^ b < 64 := Nat.pow_lt_pow_right (by decide) (show b < 6 by omega)
  refine am_q_iload_n rfl rfl ?_
  refine am_q_iload_n rfl rfl ?_
  refine am_q_ieqN rfl (by omega) (by omega) (fun c_32 => ?_) (fun c_32 => ?_)
  · rw [if_pos (Or.inl c_32)]
    refine am_q_aload_n rfl rfl ?_
    refine am_q_iconst (v := nI 3) rfl rfl ?_
    refine am_q_call rfl rfl (s_wrong _ 3 n i2 ν2 hT2.2.2.1) rfl ?_
    refine am_q_ireturn rfl rfl (sB_ok _) ?_
    exact vl_wr hD2.1.2.1 hN6 hfr2 hfl2
  · refine am_q_aload_n rfl rfl ?_
    refine am_q_gr rfl rfl rfl ?_
    refine am_q_iload_n rfl rfl ?_
    refine am_q_iald rfl rfl (by first | exact am_ix_nI (by omega) (by omega) | rfl) (hD2.2.2.1 a (by omega)) ?_
    refine am_q_iload_n rfl rfl ?_
    refine am_q_call rfl rfl (s_hasN _ _ _ (by omega) (by omega) _) rfl ?_
    refine am_q_if_eqB rfl (fun c_45 => ?_) (fun c_45 => ?_)
    · rw [if_neg (by rintro (z | z); exact c_32 z; rw [c_45] at z; cases z)]
      refine am_q_aload_n rfl rfl ?_
      refine am_q_gr rfl rfl rfl ?_
      refine am_q_iload_n rfl rfl ?_
      refine am_q_dup2ir rfl ?_
      refine am_q_iald rfl rfl (by first | exact am_ix_nI (by omega) (by omega) | rfl) (hD2.2.2.1 a (by omega)) ?_
      refine am_q_iconst (v := nI 1) rfl rfl ?_
      refine am_q_iload_n rfl rfl ?_
      refine am_q_ishl rfl (sn_shl1 (by omega)) ?_
      refine am_q_ior rfl (sn_or _ _) ?_
      refine am_q_iast rfl rfl (by first | exact am_ix_nI (by omega) (by omega) | rfl) rfl ?_
      refine am_q_aload_n rfl rfl ?_
      refine am_q_gr rfl rfl rfl ?_
      refine am_q_iload_n rfl rfl ?_
      refine am_q_dup2ir rfl ?_
      refine am_q_iald rfl rfl (by first | exact am_ix_nI (by omega) (by omega) | rfl) (show _ = nI (vH D.1 b) from (am_up_ne (by omega)).trans (hD2.2.2.1 b (by omega))) ?_
      refine am_q_iconst (v := nI 1) rfl rfl ?_
      refine am_q_iload_n rfl rfl ?_
      refine am_q_ishl rfl (sn_shl1 (by omega)) ?_
      refine am_q_ior rfl (sn_or _ _) ?_
      refine am_q_iast rfl rfl (by first | exact am_ix_nI (by omega) (by omega) | rfl) rfl ?_
      refine am_q_aload_n rfl rfl ?_
      refine am_q_dupr rfl ?_
      refine am_q_gi rfl rfl rfl (show _ = nI (vQ D.1) from by rw [am_up_ne (by omega), am_up_ne (by omega)]; exact hD2.1.2.2.1) ?_
      refine am_q_iconst (v := nI 1) rfl rfl ?_
      refine am_q_iadd rfl (nI_add _ _) ?_
      refine am_q_pi rfl rfl rfl (Or.inl rfl) ?_
      refine am_q_aload_n rfl rfl ?_
      have hx : ∀ r k, ¬ (r = 22 ∧ (k = a ∨ k = b)) → ¬ (r = 16 ∧ k = 10) → (am_up (am_up (am_up μ2 22 a (nI (vH D.1 a ||| 2 ^ b))) 22 b (nI (vH D.1 b ||| 2 ^ a))) 16 10 (nI (vQ D.1 + 1))) r k = μ2 r k := fun r k z1 z2 => by rw [am_up_ne (by omega), am_up_ne (by omega), am_up_ne (by omega)]
      obtain ⟨μ3, ν3, hc3, hT3, hf3, hl3⟩ := s_step (d + 2) n (i2 + 1) (μ := (am_up (am_up (am_up μ2 22 a (nI (vH D.1 a ||| 2 ^ b))) 22 b (nI (vH D.1 b ||| 2 ^ a))) 16 10 (nI (vQ D.1 + 1)))) ν2 hX ⟨(hx 3 1 (by omega) (by omega)).trans hT2.1.1, fun j hj => (hx 4 j (by omega) (by omega)).trans (hT2.1.2 j hj)⟩ ((hx 3 2 (by omega) (by omega)).trans hT2.2.1) hL2
      refine am_q_call rfl rfl (hc3) rfl ?_
      refine am_q_iconst (v := nI 1) rfl rfl ?_
      refine am_q_ireturn rfl rfl rfl ?_
      have g : ∀ r k, ¬ (r = 3 ∧ 2 ≤ k) → ¬ (r = 22 ∧ (k = a ∨ k = b)) → ¬ (r = 16 ∧ k = 10) → μ3 r k = μ2 r k := fun r k z1 z2 z3 => (hf3 r k (by omega)).trans (hx r k z2 z3)
      refine ⟨_, _, rfl, hT3, ⟨⟨?_, ?_, ?_, ?_, ?_⟩, fun s hs => ?_, fun s hs => ?_, fun j hj => ?_, ?_, fun j hj => ?_⟩, frVd_tr hfr2 (fun r k z1 z2 => g r k z1 (by omega) (by omega)), frVL_tr hfl2 (frVL_3 hl3)⟩
      · exact (g 16 8 (by omega) (by omega) (by omega)).trans hD2.1.1
      · exact (g 16 9 (by omega) (by omega) (by omega)).trans hD2.1.2.1
      · exact (hf3 16 10 (by omega)).trans am_up_eq
      · exact (g 16 11 (by omega) (by omega) (by omega)).trans hD2.1.2.2.2.1
      · exact (g 16 12 (by omega) (by omega) (by omega)).trans hD2.1.2.2.2.2
      · rw [g 18 s (by omega) (by omega) (by omega), g 19 s (by omega) (by omega) (by omega), g 20 s (by omega) (by omega) (by omega), g 21 s (by omega) (by omega) (by omega), hl3 17 s (by omega)]; exact hD2.2.1 s hs
      · show _ = nI (fup (fup (vH D.1) a (vH D.1 a ||| 2 ^ b)) b (vH D.1 b ||| 2 ^ a) s)
        rw [hf3 22 s (by omega), am_up_ne (by omega)]
        by_cases e1 : s = b
        · rw [e1, fup_eq, am_up_eq]
        · rw [fup_ne e1, am_up_ne (by omega)]
          by_cases e2 : s = a
          · rw [e2, fup_eq, am_up_eq]
          · rw [fup_ne e2, am_up_ne (by omega)]; exact hD2.2.2.1 s hs
      · rw [g 23 j (by omega) (by omega) (by omega)]; exact hD2.2.2.2.1 j hj
      · rw [g 24 2 (by omega) (by omega) (by omega)]; exact hD2.2.2.2.2.1
      · rw [g 25 j (by omega) (by omega) (by omega)]; exact hD2.2.2.2.2.2 j hj
    · rw [if_pos (Or.inr c_45)]
      refine am_q_aload_n rfl rfl ?_
      refine am_q_iconst (v := nI 3) rfl rfl ?_
      refine am_q_call rfl rfl (s_wrong _ 3 n i2 ν2 hT2.2.2.1) rfl ?_
      refine am_q_ireturn rfl rfl (sB_ok _) ?_
      exact vl_wr hD2.1.2.1 hN6 hfr2 hfl2

theorem s_hurL (d : Nat) (n i : Nat) {X : tTp} {D : dft} {μ : am_M2} (ν : am_N2) (hX : tpOk X) (hT : xTk μ ν X i) (hL : xLg ν) (hD : xDf μ ν D) (hO : dOk D) : am_w (d + 6) (Option.some FieldType.boolean) am_g40 0 [some (.ref 16), some (.ref 3), none, none] [] (am_hp n μ ν) (vlQ X n μ ν (pHurts X i D)) := by
  have hN6 := hO.1.1
  refine am_q_aload_n rfl rfl ?_
  obtain ⟨μ1, ν1, hc1, hT1, hf1, hl1⟩ := s_step (d + 2) n (i + 1) ν hX hT.1 hT.2.1 hL
  have hD1 := xDf_3 (frT3_K hf1) hl1 hD
  have hL1 := xLg_S hl1 hL
  refine am_q_call rfl rfl (hc1) rfl ?_
  unfold pHurts
  refine am_q_aload_n rfl rfl ?_
  refine am_q_aload_n rfl rfl ?_
  cases hr : pTold X D.2.1 (vN D.1) (i + 1) with
  | inl c =>
    obtain ⟨μ2, hc2, e2, h7⟩ := s_passS0_16 (d + 1) n (i + 1) (vN D.1) D.2.1 ν1 hX hT1 hL1 hD1.1.2.1 hN6 (fun s hs => ⟨(hD1.2.1 s hs).2.2.2.2, (hO.2.1 s hs).2.2.2⟩) c hr
    refine am_q_call rfl rfl hc2 rfl ?_
    refine am_q_istore_n [some _, some _, some _, none] rfl (Nat.le_of_ble_eq_true rfl) rfl ?_
    refine am_q_iload_n rfl rfl ?_
    refine am_q_iconst (v := -1) rfl rfl ?_
    refine am_q_icmp_ne rfl (fun c => absurd rfl c) (fun _ => ?_)
    refine am_q_iconst (v := nI 0) rfl rfl ?_
    refine am_q_ireturn rfl rfl rfl ?_
    exact ⟨_, _, vN D.1, rfl, h7, (e2 16 9 (by omega)).trans hD1.1.2.1, hN6, frVd_tr (frVd_3 (frT3_K hf1)) (frVd_3 e2), frVL_3 hl1⟩
  | inr a =>
  show am_w _ _ _ _ _ _ _ (vlQ X n μ ν (match pTold X D.2.1 (vN D.1) (i + 2) with | .inl c => .inl c | .inr b => if b = a ∨ (vH D.1 a).testBit b = true then .inl (wr X (i + 2) 3) else .inr (i + 3, dH D a b)))
  obtain ⟨μ2, ν2, hc2, hT2, hf2, hl2, haN⟩ := s_passS1_16 (d + 1) n (i + 1) (vN D.1) D.2.1 ν1 hX hT1 hL1 hD1.1.2.1 hN6 (fun s hs => ⟨(hD1.2.1 s hs).2.2.2.2, (hO.2.1 s hs).2.2.2⟩) a hr
  have hD2 := xDf_3 (frT3_K hf2) hl2 hD1
  have hL2 := xLg_S hl2 hL1
  have hfr2 := frVd_tr (frVd_3 (frT3_K hf1)) (frVd_3 (frT3_K hf2))
  have hfl2 := frVL_3 (frKL_tr hl1 hl2)
  refine am_q_call rfl rfl hc2 rfl ?_
  refine am_q_istore_n [some _, some _, some _, none] rfl (Nat.le_of_ble_eq_true rfl) rfl ?_
  refine am_q_iload_n rfl rfl ?_
  refine am_q_iconst (v := -1) rfl rfl ?_
  refine am_q_icmp_ne rfl (fun _ => ?_) (fun c => absurd c (am_pm1 (by omega)))
  refine am_q_aload_n rfl rfl ?_
  refine am_q_aload_n rfl rfl ?_
  obtain ⟨μ3, hc3, e3, hm3⟩ := s_soulAt16 (d + 4) n (i + 2) (vN D.1) D.2.1 ν2 hX hT2 hL2 hD2.1.2.1 hN6 (fun s hs => ⟨(hD2.2.1 s hs).2.2.2.2, (hO.2.1 s hs).2.2.2⟩)
  cases hr3 : pTold X D.2.1 (vN D.1) (i + 2) with
  | inl c =>
    rw [hr3] at hc3 hm3
    refine am_q_call rfl rfl hc3 rfl ?_
    refine am_q_istore_n [some _, some _, some _, some _] rfl (Nat.le_of_ble_eq_true rfl) rfl ?_
    refine am_q_iload_n rfl rfl ?_
    refine am_q_iconst (v := -1) rfl rfl ?_
    refine am_q_icmp_ne rfl (fun c => absurd rfl c) (fun _ => ?_)
    refine am_q_iconst (v := nI 0) rfl rfl ?_
    refine am_q_ireturn rfl rfl rfl ?_
    exact ⟨_, _, vN D.1, rfl, hm3, (e3 16 9 (by omega)).trans hD2.1.2.1, hN6, frVd_tr hfr2 (frVd_3 e3), hfl2⟩
  | inr b =>
  rw [hr3] at hc3 hm3
  obtain ⟨hm3, hbN, hk2⟩ := hm3
  subst hm3
  have hHa := hO.2.2.1 a
  have hHb := hO.2.2.1 b
  show am_w _ _ _ _ _ _ _ (vlQ X n μ ν (if b = a ∨ (vH D.1 a).testBit b = true then .inl (wr X (i + 2) 3) else .inr (i + 3, dH D a b)))
  refine am_q_call rfl rfl hc3 rfl ?_
  refine am_q_istore_n [some _, some _, some _, some (.int (nI b))] rfl (Nat.le_of_ble_eq_true rfl) rfl ?_
  refine am_q_iload_n rfl rfl ?_
  refine am_q_iconst (v := -1) rfl rfl ?_
  refine am_q_icmp_ne rfl (fun _ => ?_) (fun c => absurd c (am_pm1 (by omega)))
  exact s_hurT d n a b (i + 2) hX hT2 hL2 hD2 hO haN hbN hfr2 hfl2

theorem s_colT (d : Nat) (n i : Nat) {X : tTp} {D : dft} {μ : am_M2} (ν : am_N2) (hX : tpOk X) (hT : xTk μ ν X i) (hL : xLg ν) (hD : xDf μ ν D) (hO : dOk D) (hk3 : kd X i = 3) : am_w (d + 5) (Option.some FieldType.boolean) am_g45 12 [some (.ref 16), some (.ref 3)] [] (am_hp n μ ν) (vlQ X n μ ν (if 12 ≤ vF D.1 then .inl (wr X i 5) else .inr (i + 1, dF D (nu X i)))) := by
  have hN6 := hO.1.1
  have hF12 := hO.1.2.2.1
  refine am_q_aload_n rfl rfl ?_
  refine am_q_gi rfl rfl rfl hD.1.2.2.2.1 ?_
  refine am_q_bipush (v := nI 12) rfl rfl ?_
  refine am_q_iltN rfl (by omega) (by omega) (fun c_18 => ?_) (fun c_18 => ?_)
  · rw [if_neg (by omega)]
    refine am_q_aload_n rfl rfl ?_
    refine am_q_gr rfl rfl rfl ?_
    refine am_q_aload_n rfl rfl ?_
    refine am_q_gi rfl rfl rfl hD.1.2.2.2.1 ?_
    refine am_q_aload_n rfl rfl ?_
    refine am_q_gi rfl rfl rfl (hT.2.2.2.2.1 hk3) ?_
    refine am_q_iast rfl rfl (by first | exact am_ix_nI (by omega) (by omega) | rfl) rfl ?_
    refine am_q_aload_n rfl rfl ?_
    refine am_q_dupr rfl ?_
    refine am_q_gi rfl rfl rfl (show _ = nI (vF D.1) from (am_up_ne (by omega)).trans hD.1.2.2.2.1) ?_
    refine am_q_iconst (v := nI 1) rfl rfl ?_
    refine am_q_iadd rfl (nI_add _ _) ?_
    refine am_q_pi rfl rfl rfl (Or.inl rfl) ?_
    refine am_q_aload_n rfl rfl ?_
    have hx : ∀ r k, ¬ (r = 23 ∧ k = vF D.1) → ¬ (r = 16 ∧ k = 11) → (am_up (am_up μ 23 (vF D.1) (nI (nu X i))) 16 11 (nI (vF D.1 + 1))) r k = μ r k := fun r k z1 z2 => by rw [am_up_ne (by omega), am_up_ne (by omega)]
    obtain ⟨μ3, ν3, hc3, hT3, hf3, hl3⟩ := s_step (d + 1) n (i + 1) (μ := (am_up (am_up μ 23 (vF D.1) (nI (nu X i))) 16 11 (nI (vF D.1 + 1)))) ν hX ⟨(hx 3 1 (by omega) (by omega)).trans hT.1.1, fun j hj => (hx 4 j (by omega) (by omega)).trans (hT.1.2 j hj)⟩ ((hx 3 2 (by omega) (by omega)).trans hT.2.1) hL
    refine am_q_call rfl rfl (hc3) rfl ?_
    refine am_q_iconst (v := nI 1) rfl rfl ?_
    refine am_q_ireturn rfl rfl rfl ?_
    have g : ∀ r k, ¬ (r = 3 ∧ 2 ≤ k) → ¬ (r = 23 ∧ k = vF D.1) → ¬ (r = 16 ∧ k = 11) → μ3 r k = μ r k := fun r k z1 z2 z3 => (hf3 r k (by omega)).trans (hx r k z2 z3)
    refine ⟨_, _, rfl, hT3, ⟨⟨?_, ?_, ?_, ?_, ?_⟩, fun s hs => ?_, fun s hs => ?_, fun j hj => ?_, ?_, fun j hj => ?_⟩, fun r k z1 z2 => g r k z1 (by omega) (by omega), frVL_3 hl3⟩
    · exact (g 16 8 (by omega) (by omega) (by omega)).trans hD.1.1
    · exact (g 16 9 (by omega) (by omega) (by omega)).trans hD.1.2.1
    · exact (g 16 10 (by omega) (by omega) (by omega)).trans hD.1.2.2.1
    · exact (hf3 16 11 (by omega)).trans am_up_eq
    · exact (g 16 12 (by omega) (by omega) (by omega)).trans hD.1.2.2.2.2
    · rw [g 18 s (by omega) (by omega) (by omega), g 19 s (by omega) (by omega) (by omega), g 20 s (by omega) (by omega) (by omega), g 21 s (by omega) (by omega) (by omega), hl3 17 s (by omega)]; exact hD.2.1 s hs
    · rw [g 22 s (by omega) (by omega) (by omega)]; exact hD.2.2.1 s hs
    · have hj : j < vF D.1 + 1 := hj
      show _ = nI (fup (vR D.1) (vF D.1) (nu X i) j)
      by_cases e1 : j = vF D.1
      · rw [e1, fup_eq]; exact (hf3 23 _ (by omega)).trans ((am_up_ne (by omega)).trans am_up_eq)
      · rw [fup_ne e1, g 23 j (by omega) (by omega) (by omega)]; exact hD.2.2.2.1 j (by omega)
    · rw [g 24 2 (by omega) (by omega) (by omega)]; exact hD.2.2.2.2.1
    · rw [g 25 j (by omega) (by omega) (by omega)]; exact hD.2.2.2.2.2 j hj
  · rw [if_pos c_18]
    refine am_q_aload_n rfl rfl ?_
    refine am_q_iconst (v := nI 5) rfl rfl ?_
    refine am_q_call rfl rfl (s_wrong _ 5 n i ν hT.2.2.1) rfl ?_
    refine am_q_ireturn rfl rfl (sB_ok _) ?_
    exact vl_wr hD.1.2.1 hN6 (frVd_rf μ) (frVL_rf ν)

theorem s_colL (d : Nat) (n i : Nat) {X : tTp} {D : dft} {μ : am_M2} (ν : am_N2) (hX : tpOk X) (hT : xTk μ ν X i) (hL : xLg ν) (hD : xDf μ ν D) (hO : dOk D) : am_w (d + 5) (Option.some FieldType.boolean) am_g45 0 [some (.ref 16), some (.ref 3)] [] (am_hp n μ ν) (vlQ X n μ ν (pCold X i D)) := by
  have hN6 := hO.1.1
  have hF12 := hO.1.2.2.1
  obtain ⟨μ1, hc1, hf1, hm1⟩ := s_within (d + 3) (nI 9) n i ν hX hT hL 0 (by decide)
  unfold pCold
  rw [← pNumI_N (by decide)]
  refine am_q_aload_n rfl rfl ?_
  refine am_q_iconst (v := nI 0) rfl rfl ?_
  refine am_q_bipush (v := nI 9) rfl rfl ?_
  cases hr : pNumI X i 0 (nI 9) with
  | inl c =>
    rw [hr] at hc1 hm1
    refine am_q_call rfl rfl hc1 rfl ?_
    refine am_q_if_neB rfl (fun c => by cases c) (fun _ => ?_)
    refine am_q_iconst (v := nI 0) rfl rfl ?_
    refine am_q_ireturn rfl rfl rfl ?_
    exact ⟨_, _, vN D.1, rfl, hm1, (hf1 16 9 (by omega)).trans hD.1.2.1, hN6, frVd_3 hf1, frVL_rf ν⟩
  | inr v =>
    rw [hr] at hc1 hm1
    obtain ⟨hm1, hk3⟩ := hm1
    subst hm1
    have hv : v = nu X i := by unfold pNumI at hr; split at hr; cases hr; split at hr; cases hr; cases hr; rfl
    subst hv
    refine am_q_call rfl rfl hc1 rfl ?_
    refine am_q_if_neB rfl (fun _ => ?_) (fun c => by cases c)
    exact s_colT d n i ν hX hT hL hD hO hk3

theorem s_readCold (d : Nat) (n i : Nat) {X : tTp} {D : dft} {μ : am_M2} (ν : am_N2) (hX : tpOk X) (hT : xTk μ ν X i) (hL : xLg ν) (hD : xDf μ ν D) (hO : dOk D) : ∃ y, am_run (d + 6) 45 [.ref 16, .ref 3] (am_hp n μ ν) = some y ∧ vlQ X n μ ν (pCold X i D) y := am_run_wE (k := 45) (d := d + 5) rfl rfl (Nat.le_of_ble_eq_true rfl) [some (.ref 16), some (.ref 3)] rfl (s_colL d n i ν hX hT hL hD hO)
theorem pCold_ok {X : tTp} {j : Nat} {D : dft} {q : Nat × dft} (hO : dOk D) (h : pCold X j D = .inr q) : dOk q.2 ∧ q.1 = j + 1 ∧ kd X j = 3 := by
  unfold pCold at h
  cases hp : pNum X j 0 9 with
  | inl c => rw [hp] at h; cases h
  | inr v =>
    rw [hp] at h
    simp only at h
    have hv := (pN_in hp).2
    have hk : kd X j = 3 := by
      unfold pNum at hp
      split at hp
      · cases hp
      · rename_i c; simpa using c
    split at h
    · cases h
    · rename_i c
      cases h
      refine ⟨⟨⟨hO.1.1, hO.1.2.1, by show vF D.1 + 1 ≤ 12; omega, trivial⟩, hO.2.1, hO.2.2.1, fun i hi => ?_⟩, rfl, hk⟩
      have hi : i < vF D.1 + 1 := hi
      show fup (vR D.1) (vF D.1) v i ≤ 9
      by_cases e : i = vF D.1
      · rw [e, fup_eq]; exact hv
      · rw [fup_ne e]; exact hO.2.2.2 i (by omega)