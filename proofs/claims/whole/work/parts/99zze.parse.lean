theorem lw_c0 (d n t T : Nat) (l5 l6 : Option Value) {xs : Nat → Int32} {μ : am_M2} {ν : am_N2} (hn : n ≤ 3584) (hi : 7 * t + 7 ≤ n) (hT : T < 2 ^ 19) (hR : REL T xs μ ν) : am_v (d + 46) (Option.some FieldType.boolean) am_gl 248 [some (.ref 0), some (.ref 2), some (.ref 133), some (.ref 151), some (.int (nI (7 * t))), l5, l6] [] (am_hp n μ ν) (lawQz n t T xs l5 l6) := by
  have hR0 := hR
  obtain ⟨X, V, nm, W, U, K, S, Y, hTp, hLg, ⟨hRx, hRm⟩, hG, hNm, h0⟩ := hR
  obtain ⟨hO, ⟨hI, hWt⟩, hU, hKm, hN, hYo⟩ := id hG
  have ht : W.2.2 < 2 ^ 20 := by omega
  obtain ⟨a, ha, ea⟩ := lN_all (((xs (7 * t + 1)).toInt64 <<< ((nI 32).toInt64 &&& 63)) ||| ((xs (7 * t + 2)).toInt64 &&& lN 4294967295))
  obtain ⟨b, hb, eb⟩ := lN_all (((xs (7 * t + 3)).toInt64 <<< ((nI 32).toInt64 &&& 63)) ||| ((xs (7 * t + 4)).toInt64 &&& lN 4294967295))
  obtain ⟨c, hc, ec⟩ := lN_all (((xs (7 * t + 5)).toInt64 <<< ((nI 32).toInt64 &&& 63)) ||| ((xs (7 * t + 6)).toInt64 &&& lN 4294967295))
  refine am_e_aload_n rfl rfl ?_
  refine am_e_aload_n rfl rfl ?_
  refine am_e_iload rfl rfl ?_
  refine am_e_iconst (v := nI 1) rfl rfl ?_
  refine am_e_iadd rfl (nI_add _ _) ?_
  refine am_e_iald rfl rfl (am_ix_nI (show 7 * t + 1 < n by omega) (by omega)) (h0 _) ?_
  refine am_e_i2l rfl rfl ?_
  refine am_e_bipush (v := nI 32) rfl rfl ?_
  refine am_e_lshl rfl rfl ?_
  refine am_e_aload_n rfl rfl ?_
  refine am_e_iload rfl rfl ?_
  refine am_e_iconst (v := nI 2) rfl rfl ?_
  refine am_e_iadd rfl (nI_add _ _) ?_
  refine am_e_iald rfl rfl (am_ix_nI (show 7 * t + 2 < n by omega) (by omega)) (h0 _) ?_
  refine am_e_i2l rfl rfl ?_
  refine am_e_ldc2_w (v := lN 4294967295) rfl rfl ?_
  refine am_e_land rfl rfl ?_
  refine am_e_lor rfl ea ?_
  refine am_e_aload_n rfl rfl ?_
  refine am_e_iload rfl rfl ?_
  refine am_e_iconst (v := nI 3) rfl rfl ?_
  refine am_e_iadd rfl (nI_add _ _) ?_
  refine am_e_iald rfl rfl (am_ix_nI (show 7 * t + 3 < n by omega) (by omega)) (h0 _) ?_
  refine am_e_i2l rfl rfl ?_
  refine am_e_bipush (v := nI 32) rfl rfl ?_
  refine am_e_lshl rfl rfl ?_
  refine am_e_aload_n rfl rfl ?_
  refine am_e_iload rfl rfl ?_
  refine am_e_iconst (v := nI 4) rfl rfl ?_
  refine am_e_iadd rfl (nI_add _ _) ?_
  refine am_e_iald rfl rfl (am_ix_nI (show 7 * t + 4 < n by omega) (by omega)) (h0 _) ?_
  refine am_e_i2l rfl rfl ?_
  refine am_e_ldc2_w (v := lN 4294967295) rfl rfl ?_
  refine am_e_land rfl rfl ?_
  refine am_e_lor rfl eb ?_
  refine am_e_aload_n rfl rfl ?_
  refine am_e_iload rfl rfl ?_
  refine am_e_iconst (v := nI 5) rfl rfl ?_
  refine am_e_iadd rfl (nI_add _ _) ?_
  refine am_e_iald rfl rfl (am_ix_nI (show 7 * t + 5 < n by omega) (by omega)) (h0 _) ?_
  refine am_e_i2l rfl rfl ?_
  refine am_e_bipush (v := nI 32) rfl rfl ?_
  refine am_e_lshl rfl rfl ?_
  refine am_e_aload_n rfl rfl ?_
  refine am_e_iload rfl rfl ?_
  refine am_e_bipush (v := nI 6) rfl rfl ?_
  refine am_e_iadd rfl (nI_add _ _) ?_
  refine am_e_iald rfl rfl (am_ix_nI (show 7 * t + 6 < n by omega) (by omega)) (h0 _) ?_
  refine am_e_i2l rfl rfl ?_
  refine am_e_ldc2_w (v := lN 4294967295) rfl rfl ?_
  refine am_e_land rfl rfl ?_
  refine am_e_lor rfl ec ?_
  obtain ⟨μ1, hx, hf1, hT1⟩ := x_feed (d + 44) n a b c ha hb hc ν hTp.1 hTp.2.1
  have hTm1 : mTp μ1 X := ⟨by rw [hf1 133 (by omega) (by omega)]; exact hTp.2.2.1, fun j hj => by rw [hf1 134 (by omega) (by omega)]; exact hTp.2.2.2 j hj⟩
  have h01 : ∀ k, μ1 0 k = xs k := fun k => by rw [hf1 0 (by omega) (by omega)]; exact h0 k
  refine am_e_call rfl rfl (hx) rfl ?_
  refine am_e_aload_n rfl rfl ?_
  refine am_e_aload_n rfl rfl ?_
  refine am_e_iload rfl rfl ?_
  refine am_e_iconst (v := nI 1) rfl rfl ?_
  refine am_e_iadd rfl (nI_add _ _) ?_
  refine am_e_iald rfl rfl (am_ix_nI (show 7 * t + 1 < n by omega) (by omega)) (h01 _) ?_
  refine am_e_i2l rfl rfl ?_
  refine am_e_bipush (v := nI 32) rfl rfl ?_
  refine am_e_lshl rfl rfl ?_
  refine am_e_aload_n rfl rfl ?_
  refine am_e_iload rfl rfl ?_
  refine am_e_iconst (v := nI 2) rfl rfl ?_
  refine am_e_iadd rfl (nI_add _ _) ?_
  refine am_e_iald rfl rfl (am_ix_nI (show 7 * t + 2 < n by omega) (by omega)) (h01 _) ?_
  refine am_e_i2l rfl rfl ?_
  refine am_e_ldc2_w (v := lN 4294967295) rfl rfl ?_
  refine am_e_land rfl rfl ?_
  refine am_e_lor rfl ea ?_
  refine am_e_aload_n rfl rfl ?_
  refine am_e_iload rfl rfl ?_
  refine am_e_iconst (v := nI 3) rfl rfl ?_
  refine am_e_iadd rfl (nI_add _ _) ?_
  refine am_e_iald rfl rfl (am_ix_nI (show 7 * t + 3 < n by omega) (by omega)) (h01 _) ?_
  refine am_e_i2l rfl rfl ?_
  refine am_e_bipush (v := nI 32) rfl rfl ?_
  refine am_e_lshl rfl rfl ?_
  refine am_e_aload_n rfl rfl ?_
  refine am_e_iload rfl rfl ?_
  refine am_e_iconst (v := nI 4) rfl rfl ?_
  refine am_e_iadd rfl (nI_add _ _) ?_
  refine am_e_iald rfl rfl (am_ix_nI (show 7 * t + 4 < n by omega) (by omega)) (h01 _) ?_
  refine am_e_i2l rfl rfl ?_
  refine am_e_ldc2_w (v := lN 4294967295) rfl rfl ?_
  refine am_e_land rfl rfl ?_
  refine am_e_lor rfl eb ?_
  refine am_e_aload_n rfl rfl ?_
  refine am_e_iload rfl rfl ?_
  refine am_e_iconst (v := nI 5) rfl rfl ?_
  refine am_e_iadd rfl (nI_add _ _) ?_
  refine am_e_iald rfl rfl (am_ix_nI (show 7 * t + 5 < n by omega) (by omega)) (h01 _) ?_
  refine am_e_i2l rfl rfl ?_
  refine am_e_bipush (v := nI 32) rfl rfl ?_
  refine am_e_lshl rfl rfl ?_
  refine am_e_aload_n rfl rfl ?_
  refine am_e_iload rfl rfl ?_
  refine am_e_bipush (v := nI 6) rfl rfl ?_
  refine am_e_iadd rfl (nI_add _ _) ?_
  refine am_e_iald rfl rfl (am_ix_nI (show 7 * t + 6 < n by omega) (by omega)) (h01 _) ?_
  refine am_e_i2l rfl rfl ?_
  refine am_e_ldc2_w (v := lN 4294967295) rfl rfl ?_
  refine am_e_land rfl rfl ?_
  refine am_e_lor rfl ec ?_
  obtain ⟨μ2, hm, hf2, hT2⟩ := m_feed (d + 44) n a b c ha hb hc ν hTp.1 hTm1
  refine am_e_call rfl rfl (hm) rfl ?_
  refine am_e_icmp_eq rfl (fun c_390 => ?_) (fun c_390 => absurd rfl c_390)
  have g : ∀ i k, i < 133 → i ≠ 3 → i ≠ 4 → μ2 i k = μ i k := fun i k z z1 z2 => by rw [hf2 i k (by omega) (by omega), hf1 i z1 z2]
  refine am_v0 ⟨rfl, rfl, rfl, _, _, rfl, fdX X a b c, V, nm, W, U, K, S, Y, ⟨fdX_ok hTp.1, ⟨?_, fun j hj => ?_⟩, hT2⟩, hLg, ⟨xR_rows (fun i hi => funext fun k => g i k (by omega) (by omega) (by omega)) hRx, mR_rows (by rw [hf2 133 18 (by omega) (by omega), hf1 133 (by omega) (by omega)]) (fun i hi => funext fun k => by rw [hf2 i k (by omega) (by omega), hf1 i (by omega) (by omega)]) hRm⟩, iG_m hG (Nat.le_succ T), hNm, fun k => (hf2 0 k (by omega) (by omega)).trans (h01 k)⟩
  · rw [hf2 3 1 (by omega) (by omega)]; exact hT1.1
  · rw [hf2 4 j (by omega) (by omega)]; exact hT1.2 j hj

theorem lw_c1a (d n t T : Nat) (l5 l6 : Option Value) {xs : Nat → Int32} {μ : am_M2} {ν : am_N2} (hn : n ≤ 3584) (hi : 7 * t + 7 ≤ n) (hT : T < 2 ^ 19)  (X : tTp) (V : sVal) (nm : Nat → Nat) (W : sWall) (U : List sWall) (K : Nat → Option (sWall × sSeen)) (S : sSeen) (Y : sYear) (hTp : tpG μ X) (hLg : lgG ν) (hRx : xR μ V W U K S Y) (hRm : mR μ V W U K S Y) (hG : iG V W U K S Y T) (hNm : nmG ν V nm) (h0 : ∀ k, μ 0 k = xs k) {c : Nat} (hr : pRd X 1000 0 d0 = .inl c) : am_v (d + 46) (Option.some FieldType.boolean) am_gl 395 [some (.ref 0), some (.ref 2), some (.ref 133), some (.ref 151), some (.int (nI (7 * t))), l5, l6] [] (am_hp n μ ν) (lawQz n t T xs l5 l6) := by
  refine am_e_aload_n rfl rfl ?_
  obtain ⟨y, hy, hq⟩ := x_valley d n ν hTp.1 hTp.2.1 hLg.1 hRx
  rw [hr] at hq
  obtain ⟨μ1, ν1, rfl, q1, q2, q3⟩ := hq
  have hTm1 : mTp μ1 X := ⟨(q2 133 2 (by omega) (by omega)).trans hTp.2.2.1, fun j hj => (q2 134 j (by omega) (by omega)).trans (hTp.2.2.2 j hj)⟩
  have hRm1 : mR μ1 V W U K S Y := mR_rows (q2 133 18 (by omega) (by omega)) (fun i hi => funext fun k => q2 i k (by omega) (by omega)) hRm
  refine am_e_call rfl rfl (hy) rfl ?_
  refine am_e_aload_n rfl rfl ?_
  obtain ⟨y2, hy2, hq2⟩ := m_valley (d + 11) n (ν := ν1) hTp.1 hTm1 (fun r hr => (q3 138 r (by omega) (by omega)).trans (hLg.2 r hr))
  rw [hr] at hq2
  obtain ⟨μ2, ν2, rfl, w1, w2, w3⟩ := hq2
  refine am_e_call rfl rfl (hy2) rfl ?_
  refine am_e_icmp_eq rfl (fun c_403 => ?_) (fun c_403 => absurd rfl c_403)
  have hO := hG.1
  have g : ∀ i k, i ≠ 3 → ¬ (16 ≤ i ∧ i ≤ 26) → i < 133 → μ2 i k = μ i k := fun i k z1 z2 z3 => (w2 i k (by omega) (by omega) (by omega) (by omega) (by omega)).trans (q2 i k z1 z2)
  have gl : ∀ i k, i ≠ 3 → i ≠ 17 → i ≠ 137 → ¬ (i = 141 ∧ 6 ≤ k) → ν2 i k = ν i k := fun i k z1 z2 z3 z4 => (w3 i k z3 z4).trans (q3 i k (by omega) z2)
  exact am_v0 ⟨rfl, rfl, rfl, _, _, rfl, (X.1, 0), V, nm, W, U, K, S, Y, ⟨⟨Nat.zero_le _, fun j hj => absurd hj (Nat.not_lt_zero _)⟩, ⟨(w2 3 1 (by omega) (by omega) (by omega) (by omega) (by omega)).trans q1, fun j hj => absurd hj (Nat.not_lt_zero _)⟩, ⟨w1, fun j hj => absurd hj (Nat.not_lt_zero _)⟩⟩, ⟨fun r hr => (gl 1 r (by omega) (by omega) (by omega) (by omega)).trans (hLg.1 r hr), fun r hr => (gl 138 r (by omega) (by omega) (by omega) (by omega)).trans (hLg.2 r hr)⟩, ⟨xR_rows (fun i hi => funext fun k => g i k (by omega) (by omega) (by omega)) hRx, mR_Rd hO.1.1 hO.1.2.2.1 w2 hRm1⟩, iG_m hG (Nat.le_succ T), ⟨fun s hs => ⟨(gl 6 s (by omega) (by omega) (by omega) (by omega)).trans (hNm.1 s hs).1, (hNm.1 s hs).2⟩, fun s hs => ⟨(gl 141 _ (by omega) (by omega) (by omega) (by have := hO.1.1; omega)).trans (hNm.2.1 s hs).1, (hNm.2.1 s hs).2⟩, hNm.2.2⟩, fun k => (g 0 k (by omega) (by omega) (by omega)).trans (h0 k)⟩

theorem lw_c1b (d n t T : Nat) (l5 l6 : Option Value) {xs : Nat → Int32} {μ : am_M2} {ν : am_N2} (hn : n ≤ 3584) (hi : 7 * t + 7 ≤ n) (hT : T < 2 ^ 19)  (X : tTp) (V : sVal) (nm : Nat → Nat) (W : sWall) (U : List sWall) (K : Nat → Option (sWall × sSeen)) (S : sSeen) (Y : sYear) (hTp : tpG μ X) (hLg : lgG ν) (hRx : xR μ V W U K S Y) (h0 : ∀ k, μ 0 k = xs k) {E : dft} (hr : pRd X 1000 0 d0 = .inr E) : am_v (d + 46) (Option.some FieldType.boolean) am_gl 395 [some (.ref 0), some (.ref 2), some (.ref 133), some (.ref 151), some (.int (nI (7 * t))), l5, l6] [] (am_hp n μ ν) (lawQz n t T xs l5 l6) := by
  refine am_e_aload_n rfl rfl ?_
  obtain ⟨y, hy, hq⟩ := x_valley d n ν hTp.1 hTp.2.1 hLg.1 hRx
  rw [hr] at hq
  obtain ⟨μ1, ν1, rfl, q1, q2, q3, q4, q5, q6⟩ := hq
  obtain ⟨y9, hy9, r9, μ9, ν9, rfl, h09⟩ := n_valley d n ν hTp.1 hTp.2.1 hLg.1
  obtain ⟨e9, -⟩ := hpE hy hy9
  subst e9
  have hTm1 : mTp μ9 X := ⟨(q5 133 2 (by omega)).trans hTp.2.2.1, fun j hj => (q5 134 j (by omega)).trans (hTp.2.2.2 j hj)⟩
  refine am_e_call rfl rfl (hy) rfl ?_
  refine am_e_aload_n rfl rfl ?_
  obtain ⟨y2, hy2, hq2⟩ := m_valley (d + 11) n (ν := ν1) hTp.1 hTm1 (fun r hr => (q6 138 r (by omega) (by omega) (by omega)).trans (hLg.2 r hr))
  rw [hr] at hq2
  obtain ⟨μ2, ν2, rfl, w1, w2, w3, w4, w5⟩ := hq2
  refine am_e_call rfl rfl (hy2) rfl ?_
  refine am_e_icmp_eq rfl (fun c_403 => ?_) (fun c_403 => absurd rfl c_403)
  have hO := dG_vOk q2
  refine am_v0 ⟨rfl, rfl, rfl, _, _, rfl, (X.1, 0), E.1, E.2.1, w0, [], k0, s0, y0, ⟨⟨Nat.zero_le _, fun j hj => absurd hj (Nat.not_lt_zero _)⟩, ⟨(w4 3 1 (by omega)).trans q1, fun j hj => absurd hj (Nat.not_lt_zero _)⟩, ⟨w1, fun j hj => absurd hj (Nat.not_lt_zero _)⟩⟩, ⟨fun r hr => (w5 1 r (by omega) (by omega)).trans ((q6 1 r (by omega) (by omega) (by omega)).trans (hLg.1 r hr)), fun r hr => (w5 138 r (by omega) (by omega)).trans ((q6 138 r (by omega) (by omega) (by omega)).trans (hLg.2 r hr))⟩, ⟨xR_rows (fun i hi => funext fun k => w4 i k (by omega)) q3, w2⟩, ⟨hO, ⟨w0_I E.1, Nat.zero_le _⟩, fun w hw => absurd hw List.not_mem_nil, fun m w s e => (by cases e), ⟨by decide, fun i hi => absurd hi (Nat.not_lt_zero _)⟩, ⟨by decide, fun i hi => absurd hi (Nat.not_lt_zero _)⟩⟩, ⟨fun s hs => ⟨(w5 6 s (by omega) (by omega)).trans (q4 s hs), (q2.1.2.1 s hs).2.2.2⟩, w3⟩, fun k => (w4 0 k (by omega)).trans ((h09 k).trans (h0 k))⟩

theorem lw_c1 (d n t T : Nat) (l5 l6 : Option Value) {xs : Nat → Int32} {μ : am_M2} {ν : am_N2} (hn : n ≤ 3584) (hi : 7 * t + 7 ≤ n) (hT : T < 2 ^ 19) (hR : REL T xs μ ν) : am_v (d + 46) (Option.some FieldType.boolean) am_gl 395 [some (.ref 0), some (.ref 2), some (.ref 133), some (.ref 151), some (.int (nI (7 * t))), l5, l6] [] (am_hp n μ ν) (lawQz n t T xs l5 l6) := by
  obtain ⟨X, V, nm, W, U, K, S, Y, hTp, hLg, ⟨hRx, hRm⟩, hG, hNm, h0⟩ := hR
  cases hr : pRd X 1000 0 d0 with
  | inl c => exact lw_c1a d n t T l5 l6 hn hi hT X V nm W U K S Y hTp hLg hRx hRm hG hNm h0 hr
  | inr E => exact lw_c1b d n t T l5 l6 hn hi hT X V nm W U K S Y hTp hLg hRx h0 hr
theorem lw_c2 (d n t T : Nat) (l5 l6 : Option Value) {xs : Nat → Int32} {μ : am_M2} {ν : am_N2} (hn : n ≤ 3584) (hi : 7 * t + 7 ≤ n) (hT : T < 2 ^ 19) (hR : REL T xs μ ν) : am_v (d + 46) (Option.some FieldType.boolean) am_gl 408 [some (.ref 0), some (.ref 2), some (.ref 133), some (.ref 151), some (.int (nI (7 * t))), l5, l6] [] (am_hp n μ ν) (lawQz n t T xs l5 l6) := by
  have hR0 := hR
  obtain ⟨X, V, nm, W, U, K, S, Y, hTp, hLg, ⟨hRx, hRm⟩, hG, hNm, h0⟩ := hR
  obtain ⟨hO, ⟨hI, hWt⟩, hU, hKm, hN, hYo⟩ := id hG
  have ht : W.2.2 < 2 ^ 20 := by omega
  refine am_e_aload_n rfl rfl ?_
  obtain ⟨y, hy, hq⟩ := x_year (d + 37) n ν hTp.1 hTp.2.1 hLg.1 hRx hNm.1
  obtain ⟨μ1, ν1, rfl, q1, q2, q3, q4⟩ := hq
  obtain ⟨y9, hy9, r9, μ9, ν9, rfl, h09⟩ := n_year (d + 37) n ν hTp.1 hTp.2.1 hLg.1 hRx.1 hNm.1
  obtain ⟨e9, -⟩ := hpE hy hy9
  subst e9
  have hTm1 : mTp μ9 X := ⟨(q2 133 2 (by omega)).trans hTp.2.2.1, fun j hj => (q2 134 j (by omega)).trans (hTp.2.2.2 j hj)⟩
  have hRm1 : mR μ9 V W U K S Y := mR_rows (q2 133 18 (by omega)) (fun i hi => funext fun k => q2 i k (by omega)) hRm
  refine am_e_call rfl rfl (hy) rfl ?_
  refine am_e_aload_n rfl rfl ?_
  obtain ⟨y2, hy2, hq2⟩ := m_year (d + 41) n (ν := ν1) hTp.1 hTm1 (fun r hr => (q3 138 r (by omega)).trans (hLg.2 r hr)) hO hRm1 ⟨fun s hs => ⟨(q3 141 _ (by omega)).trans (hNm.2.1 s hs).1, (hNm.2.1 s hs).2⟩, hNm.2.2⟩
  obtain ⟨μ2, ν2, rfl, w1, w2, w3, w4⟩ := hq2
  refine am_e_call rfl rfl (hy2) rfl ?_
  refine am_e_icmp_eq rfl (fun c_416 => ?_) (fun c_416 => absurd rfl c_416)
  have g : ∀ i k, i < 133 → μ2 i k = μ9 i k := fun i k z => w2 i k (by omega) (by omega) (by omega) (by omega)
  have gl : ∀ i k, i ≠ 3 → i ≠ 137 → ν2 i k = ν i k := fun i k z1 z2 => (w3 i k z2).trans (q3 i k (by omega))
  refine am_v0 ⟨rfl, rfl, rfl, _, _, rfl, (X.1, 0), V, nm, W, U, K, S, _, ⟨⟨Nat.zero_le _, fun j hj => absurd hj (Nat.not_lt_zero _)⟩, ⟨(g 3 1 (by omega)).trans q1, fun j hj => absurd hj (Nat.not_lt_zero _)⟩, ⟨w1, fun j hj => absurd hj (Nat.not_lt_zero _)⟩⟩, ⟨fun r hr => (gl 1 r (by omega) (by omega)).trans (hLg.1 r hr), fun r hr => (gl 138 r (by omega) (by omega)).trans (hLg.2 r hr)⟩, ⟨xR_rows (fun i hi => funext fun k => g i k (by omega)) q4, w4⟩, ?_, ⟨fun s hs => ⟨(gl 6 s (by omega) (by omega)).trans (hNm.1 s hs).1, (hNm.1 s hs).2⟩, fun s hs => ⟨(gl 141 _ (by omega) (by omega)).trans (hNm.2.1 s hs).1, (hNm.2.1 s hs).2⟩, hNm.2.2⟩, fun k => (g 0 k (by omega)).trans ((h09 k).trans (h0 k))⟩
  have hG' := iG_m hG (Nat.le_succ T)
  cases hr : pYr X V nm 1000 0 y0 with
  | inl c => exact hG'
  | inr Z => exact ⟨hG'.1, hG'.2.1, hG'.2.2.1, hG'.2.2.2.1, hG'.2.2.2.2.1, pYr_g hO.1.2.1 1000 0 y0 Z (y0_ok V) (Nat.zero_le _) hr⟩
