/-- one call of the law, done: at the loop's end, all in step -/
def lawQz (n t T : Nat) (xs : Nat → Int32) (l5 l6 : Option Value) (a : Nat) (b : am_L) (c : List Value) (e : am_H) : Prop := a = 1549 ∧ b = [some (.ref 0), some (.ref 2), some (.ref 133), some (.ref 151), some (.int (nI (7 * t))), l5, l6] ∧ c = [] ∧ ∃ μ' ν', e = am_hp n μ' ν' ∧ REL (T + 1) xs μ' ν'
theorem lw_c3 (d n t T : Nat) (l5 l6 : Option Value) {xs : Nat → Int32} {μ : am_M2} {ν : am_N2} (hn : n ≤ 3584) (hi : 7 * t + 7 ≤ n) (hT : T < 2 ^ 19) (hR : REL T xs μ ν) : am_v (d + 46) (Option.some FieldType.boolean) am_gl 421 [some (.ref 0), some (.ref 2), some (.ref 133), some (.ref 151), some (.int (nI (7 * t))), l5, l6] [] (am_hp n μ ν) (lawQz n t T xs l5 l6) := by
  have hR0 := hR
  obtain ⟨X, V, nm, W, U, K, S, Y, hTp, hLg, ⟨hRx, hRm⟩, hG, hNm, h0⟩ := hR
  obtain ⟨hO, ⟨hI, hWt⟩, hU, hKm, hN, hYo⟩ := id hG
  have ht : W.2.2 < 2 ^ 20 := by omega
  refine am_e_aload_n rfl rfl ?_
  refine am_e_aload_n rfl rfl ?_
  refine am_e_iload rfl rfl ?_
  refine am_e_iconst (v := nI 1) rfl rfl ?_
  refine am_e_iadd rfl (nI_add _ _) ?_
  refine am_e_iald rfl rfl (am_ix_nI (show 7 * t + 1 < n by omega) (by omega)) (h0 _) ?_
  refine am_e_aload_n rfl rfl ?_
  refine am_e_iload rfl rfl ?_
  refine am_e_iconst (v := nI 2) rfl rfl ?_
  refine am_e_iadd rfl (nI_add _ _) ?_
  refine am_e_iald rfl rfl (am_ix_nI (show 7 * t + 2 < n by omega) (by omega)) (h0 _) ?_
  have hf1 := fr_rf μ
  have hRm1 := mR_fr hf1 hRm
  have h01 : ∀ k, μ 0 k = xs k := fun k => (hf1 0 k (by omega)).trans (h0 k)
  have hTm1 : μ 133 2 = nI X.2 := (hf1 133 2 (by omega)).trans hTp.2.2.1
  refine am_e_call rfl rfl (x_soul (d + 43) (xs (7 * t + 1)) (xs (7 * t + 2)) n ν hRx.1 hO hRx.2.1 hI ht) rfl ?_
  refine am_e_aload_n rfl rfl ?_
  refine am_e_aload_n rfl rfl ?_
  refine am_e_iload rfl rfl ?_
  refine am_e_iconst (v := nI 1) rfl rfl ?_
  refine am_e_iadd rfl (nI_add _ _) ?_
  refine am_e_iald rfl rfl (am_ix_nI (show 7 * t + 1 < n by omega) (by omega)) (h01 _) ?_
  refine am_e_aload_n rfl rfl ?_
  refine am_e_iload rfl rfl ?_
  refine am_e_iconst (v := nI 2) rfl rfl ?_
  refine am_e_iadd rfl (nI_add _ _) ?_
  refine am_e_iald rfl rfl (am_ix_nI (show 7 * t + 2 < n by omega) (by omega)) (h01 _) ?_
  have hf2 := fr_thr μ
  have hl2 := frL_rf ν
  refine am_e_call rfl rfl (m_soul (d + 43) (xs (7 * t + 1)) (xs (7 * t + 2)) n ν hRm1.1 hO hRm1.2.1 hI ht) rfl ?_
  refine am_e_icmp_eq rfl (fun c_453 => ?_) (fun c_453 => absurd rfl c_453)
  exact am_v0 ⟨rfl, rfl, rfl, _, _, rfl, REL_fr (fr_tr hf1 hf2) hl2 hR0⟩

theorem lw_c4 (d n t T : Nat) (l5 l6 : Option Value) {xs : Nat → Int32} {μ : am_M2} {ν : am_N2} (hn : n ≤ 3584) (hi : 7 * t + 7 ≤ n) (hT : T < 2 ^ 19) (hR : REL T xs μ ν) : am_v (d + 46) (Option.some FieldType.boolean) am_gl 458 [some (.ref 0), some (.ref 2), some (.ref 133), some (.ref 151), some (.int (nI (7 * t))), l5, l6] [] (am_hp n μ ν) (lawQz n t T xs l5 l6) := by
  have hR0 := hR
  obtain ⟨X, V, nm, W, U, K, S, Y, hTp, hLg, ⟨hRx, hRm⟩, hG, hNm, h0⟩ := hR
  obtain ⟨hO, ⟨hI, hWt⟩, hU, hKm, hN, hYo⟩ := id hG
  have ht : W.2.2 < 2 ^ 20 := by omega
  refine am_e_aload_n rfl rfl ?_
  refine am_e_aload_n rfl rfl ?_
  refine am_e_iload rfl rfl ?_
  refine am_e_iconst (v := nI 1) rfl rfl ?_
  refine am_e_iadd rfl (nI_add _ _) ?_
  refine am_e_iald rfl rfl (am_ix_nI (show 7 * t + 1 < n by omega) (by omega)) (h0 _) ?_
  have hf1 := fr_rf μ
  have hRm1 := mR_fr hf1 hRm
  have h01 : ∀ k, μ 0 k = xs k := fun k => (hf1 0 k (by omega)).trans (h0 k)
  have hTm1 : μ 133 2 = nI X.2 := (hf1 133 2 (by omega)).trans hTp.2.2.1
  refine am_e_call rfl rfl (x_stands (d + 43) (xs (7 * t + 1)) n ν hRx.1 hO hRx.2.1 hI ht) rfl ?_
  refine am_e_aload_n rfl rfl ?_
  refine am_e_aload_n rfl rfl ?_
  refine am_e_iload rfl rfl ?_
  refine am_e_iconst (v := nI 1) rfl rfl ?_
  refine am_e_iadd rfl (nI_add _ _) ?_
  refine am_e_iald rfl rfl (am_ix_nI (show 7 * t + 1 < n by omega) (by omega)) (h01 _) ?_
  have hf2 := fr_thr μ
  have hl2 := frL_rf ν
  refine am_e_call rfl rfl (m_stands (d + 43) (xs (7 * t + 1)) n ν hRm1.1 hO hRm1.2.1 hI ht) rfl ?_
  refine am_e_icmp_eq rfl (fun c_478 => ?_) (fun c_478 => absurd rfl c_478)
  exact am_v0 ⟨rfl, rfl, rfl, _, _, rfl, REL_fr (fr_tr hf1 hf2) hl2 hR0⟩

theorem lw_c10 (d n t T : Nat) (l5 l6 : Option Value) {xs : Nat → Int32} {μ : am_M2} {ν : am_N2} (hn : n ≤ 3584) (hi : 7 * t + 7 ≤ n) (hT : T < 2 ^ 19) (hR : REL T xs μ ν) : am_v (d + 46) (Option.some FieldType.boolean) am_gl 596 [some (.ref 0), some (.ref 2), some (.ref 133), some (.ref 151), some (.int (nI (7 * t))), l5, l6] [] (am_hp n μ ν) (lawQz n t T xs l5 l6) := by
  have hR0 := hR
  obtain ⟨X, V, nm, W, U, K, S, Y, hTp, hLg, ⟨hRx, hRm⟩, hG, hNm, h0⟩ := hR
  obtain ⟨hO, ⟨hI, hWt⟩, hU, hKm, hN, hYo⟩ := id hG
  have ht : W.2.2 < 2 ^ 20 := by omega
  refine am_e_aload_n rfl rfl ?_
  refine am_e_aload_n rfl rfl ?_
  refine am_e_iload rfl rfl ?_
  refine am_e_iconst (v := nI 1) rfl rfl ?_
  refine am_e_iadd rfl (nI_add _ _) ?_
  refine am_e_iald rfl rfl (am_ix_nI (show 7 * t + 1 < n by omega) (by omega)) (h0 _) ?_
  obtain ⟨μ1, hx, hf1⟩ := x_judged (d + 38) (xs (7 * t + 1)) n ν hRx hO hI ht hYo
  have hRm1 := mR_fr hf1 hRm
  have h01 : ∀ k, μ1 0 k = xs k := fun k => (hf1 0 k (by omega)).trans (h0 k)
  have hTm1 : μ1 133 2 = nI X.2 := (hf1 133 2 (by omega)).trans hTp.2.2.1
  refine am_e_call rfl rfl (hx) rfl ?_
  refine am_e_aload_n rfl rfl ?_
  refine am_e_aload_n rfl rfl ?_
  refine am_e_iload rfl rfl ?_
  refine am_e_iconst (v := nI 1) rfl rfl ?_
  refine am_e_iadd rfl (nI_add _ _) ?_
  refine am_e_iald rfl rfl (am_ix_nI (show 7 * t + 1 < n by omega) (by omega)) (h01 _) ?_
  obtain ⟨μ2, hm, hf2⟩ := m_judged (d + 39) (xs (7 * t + 1)) n ν hRm1 hO hI ht hYo
  have hl2 := frL_rf ν
  refine am_e_call rfl rfl (hm) rfl ?_
  refine am_e_icmp_eq rfl (fun c_616 => ?_) (fun c_616 => absurd rfl c_616)
  exact am_v0 ⟨rfl, rfl, rfl, _, _, rfl, REL_fr (fr_tr hf1 hf2) hl2 hR0⟩

theorem lw_c11 (d n t T : Nat) (l5 l6 : Option Value) {xs : Nat → Int32} {μ : am_M2} {ν : am_N2} (hn : n ≤ 3584) (hi : 7 * t + 7 ≤ n) (hT : T < 2 ^ 19) (hR : REL T xs μ ν) : am_v (d + 46) (Option.some FieldType.boolean) am_gl 621 [some (.ref 0), some (.ref 2), some (.ref 133), some (.ref 151), some (.int (nI (7 * t))), l5, l6] [] (am_hp n μ ν) (lawQz n t T xs l5 l6) := by
  have hR0 := hR
  obtain ⟨X, V, nm, W, U, K, S, Y, hTp, hLg, ⟨hRx, hRm⟩, hG, hNm, h0⟩ := hR
  obtain ⟨hO, ⟨hI, hWt⟩, hU, hKm, hN, hYo⟩ := id hG
  have ht : W.2.2 < 2 ^ 20 := by omega
  refine am_e_aload_n rfl rfl ?_
  refine am_e_aload_n rfl rfl ?_
  refine am_e_iload rfl rfl ?_
  refine am_e_iconst (v := nI 1) rfl rfl ?_
  refine am_e_iadd rfl (nI_add _ _) ?_
  refine am_e_iald rfl rfl (am_ix_nI (show 7 * t + 1 < n by omega) (by omega)) (h0 _) ?_
  have hf1 := fr_rf μ
  have hRm1 := mR_fr hf1 hRm
  have h01 : ∀ k, μ 0 k = xs k := fun k => (hf1 0 k (by omega)).trans (h0 k)
  have hTm1 : μ 133 2 = nI X.2 := (hf1 133 2 (by omega)).trans hTp.2.2.1
  refine am_e_call rfl rfl (x_may (d + 41) (xs (7 * t + 1)) n ν hRx.1 hO hRx.2.1 hI ht) rfl ?_
  refine am_e_aload_n rfl rfl ?_
  refine am_e_aload_n rfl rfl ?_
  refine am_e_iload rfl rfl ?_
  refine am_e_iconst (v := nI 1) rfl rfl ?_
  refine am_e_iadd rfl (nI_add _ _) ?_
  refine am_e_iald rfl rfl (am_ix_nI (show 7 * t + 1 < n by omega) (by omega)) (h01 _) ?_
  have hf2 := fr_thr μ
  have hl2 := frL_rf ν
  refine am_e_call rfl rfl (m_may (d + 41) (xs (7 * t + 1)) n ν hRm1.1 hO hRm1.2.1 hI ht) rfl ?_
  refine am_e_icmp_eq rfl (fun c_641 => ?_) (fun c_641 => absurd rfl c_641)
  exact am_v0 ⟨rfl, rfl, rfl, _, _, rfl, REL_fr (fr_tr hf1 hf2) hl2 hR0⟩

theorem lw_c12 (d n t T : Nat) (l5 l6 : Option Value) {xs : Nat → Int32} {μ : am_M2} {ν : am_N2} (hn : n ≤ 3584) (hi : 7 * t + 7 ≤ n) (hT : T < 2 ^ 19) (hR : REL T xs μ ν) : am_v (d + 46) (Option.some FieldType.boolean) am_gl 646 [some (.ref 0), some (.ref 2), some (.ref 133), some (.ref 151), some (.int (nI (7 * t))), l5, l6] [] (am_hp n μ ν) (lawQz n t T xs l5 l6) := by
  have hR0 := hR
  obtain ⟨X, V, nm, W, U, K, S, Y, hTp, hLg, ⟨hRx, hRm⟩, hG, hNm, h0⟩ := hR
  obtain ⟨hO, ⟨hI, hWt⟩, hU, hKm, hN, hYo⟩ := id hG
  have ht : W.2.2 < 2 ^ 20 := by omega
  refine am_e_aload_n rfl rfl ?_
  refine am_e_aload_n rfl rfl ?_
  refine am_e_iload rfl rfl ?_
  refine am_e_iconst (v := nI 1) rfl rfl ?_
  refine am_e_iadd rfl (nI_add _ _) ?_
  refine am_e_iald rfl rfl (am_ix_nI (show 7 * t + 1 < n by omega) (by omega)) (h0 _) ?_
  obtain ⟨μ1, hx, hf1⟩ := x_falls (d + 39) (xs (7 * t + 1)) n ν hRx.1 hO hRx.2.1 hI ht
  have hRm1 := mR_fr hf1 hRm
  have h01 : ∀ k, μ1 0 k = xs k := fun k => (hf1 0 k (by omega)).trans (h0 k)
  have hTm1 : μ1 133 2 = nI X.2 := (hf1 133 2 (by omega)).trans hTp.2.2.1
  refine am_e_call rfl rfl (hx) rfl ?_
  refine am_e_aload_n rfl rfl ?_
  refine am_e_aload_n rfl rfl ?_
  refine am_e_iload rfl rfl ?_
  refine am_e_iconst (v := nI 1) rfl rfl ?_
  refine am_e_iadd rfl (nI_add _ _) ?_
  refine am_e_iald rfl rfl (am_ix_nI (show 7 * t + 1 < n by omega) (by omega)) (h01 _) ?_
  obtain ⟨μ2, hm, hf2⟩ := m_falls (d + 38) (xs (7 * t + 1)) n ν hRm1.1 hO hRm1.2.1 hI ht
  have hl2 := frL_rf ν
  refine am_e_call rfl rfl (hm) rfl ?_
  refine am_e_icmp_eq rfl (fun c_666 => ?_) (fun c_666 => absurd rfl c_666)
  exact am_v0 ⟨rfl, rfl, rfl, _, _, rfl, REL_fr (fr_tr hf1 hf2) hl2 hR0⟩

theorem lw_c13 (d n t T : Nat) (l5 l6 : Option Value) {xs : Nat → Int32} {μ : am_M2} {ν : am_N2} (hn : n ≤ 3584) (hi : 7 * t + 7 ≤ n) (hT : T < 2 ^ 19) (hR : REL T xs μ ν) : am_v (d + 46) (Option.some FieldType.boolean) am_gl 671 [some (.ref 0), some (.ref 2), some (.ref 133), some (.ref 151), some (.int (nI (7 * t))), l5, l6] [] (am_hp n μ ν) (lawQz n t T xs l5 l6) := by
  have hR0 := hR
  obtain ⟨X, V, nm, W, U, K, S, Y, hTp, hLg, ⟨hRx, hRm⟩, hG, hNm, h0⟩ := hR
  obtain ⟨hO, ⟨hI, hWt⟩, hU, hKm, hN, hYo⟩ := id hG
  have ht : W.2.2 < 2 ^ 20 := by omega
  refine am_e_aload_n rfl rfl ?_
  refine am_e_aload_n rfl rfl ?_
  refine am_e_iload rfl rfl ?_
  refine am_e_iconst (v := nI 1) rfl rfl ?_
  refine am_e_iadd rfl (nI_add _ _) ?_
  refine am_e_iald rfl rfl (am_ix_nI (show 7 * t + 1 < n by omega) (by omega)) (h0 _) ?_
  have hf1 := fr_rf μ
  have hRm1 := mR_fr hf1 hRm
  have h01 : ∀ k, μ 0 k = xs k := fun k => (hf1 0 k (by omega)).trans (h0 k)
  have hTm1 : μ 133 2 = nI X.2 := (hf1 133 2 (by omega)).trans hTp.2.2.1
  refine am_e_call rfl rfl (x_blurts (d + 43) (xs (7 * t + 1)) n ν hRx.1 hO hRx.2.1 hI ht) rfl ?_
  refine am_e_aload_n rfl rfl ?_
  refine am_e_aload_n rfl rfl ?_
  refine am_e_iload rfl rfl ?_
  refine am_e_iconst (v := nI 1) rfl rfl ?_
  refine am_e_iadd rfl (nI_add _ _) ?_
  refine am_e_iald rfl rfl (am_ix_nI (show 7 * t + 1 < n by omega) (by omega)) (h01 _) ?_
  obtain ⟨μ2, hm, hf2⟩ := m_blurts (d + 38) (xs (7 * t + 1)) n ν hRm1.1 hO hRm1.2.1 hI ht
  have hl2 := frL_rf ν
  refine am_e_call rfl rfl (hm) rfl ?_
  refine am_e_icmp_eq rfl (fun c_691 => ?_) (fun c_691 => absurd rfl c_691)
  exact am_v0 ⟨rfl, rfl, rfl, _, _, rfl, REL_fr (fr_tr hf1 hf2) hl2 hR0⟩

theorem lw_c14 (d n t T : Nat) (l5 l6 : Option Value) {xs : Nat → Int32} {μ : am_M2} {ν : am_N2} (hn : n ≤ 3584) (hi : 7 * t + 7 ≤ n) (hT : T < 2 ^ 19) (hR : REL T xs μ ν) : am_v (d + 46) (Option.some FieldType.boolean) am_gl 696 [some (.ref 0), some (.ref 2), some (.ref 133), some (.ref 151), some (.int (nI (7 * t))), l5, l6] [] (am_hp n μ ν) (lawQz n t T xs l5 l6) := by
  have hR0 := hR
  obtain ⟨X, V, nm, W, U, K, S, Y, hTp, hLg, ⟨hRx, hRm⟩, hG, hNm, h0⟩ := hR
  obtain ⟨hO, ⟨hI, hWt⟩, hU, hKm, hN, hYo⟩ := id hG
  have ht : W.2.2 < 2 ^ 20 := by omega
  refine am_e_aload_n rfl rfl ?_
  refine am_e_aload_n rfl rfl ?_
  refine am_e_iload rfl rfl ?_
  refine am_e_iconst (v := nI 1) rfl rfl ?_
  refine am_e_iadd rfl (nI_add _ _) ?_
  refine am_e_iald rfl rfl (am_ix_nI (show 7 * t + 1 < n by omega) (by omega)) (h0 _) ?_
  obtain ⟨μ1, hx, hf1⟩ := x_later (d + 39) (xs (7 * t + 1)) n ν hRx.1 hO hRx.2.1 hI ht
  have hRm1 := mR_fr hf1 hRm
  have h01 : ∀ k, μ1 0 k = xs k := fun k => (hf1 0 k (by omega)).trans (h0 k)
  have hTm1 : μ1 133 2 = nI X.2 := (hf1 133 2 (by omega)).trans hTp.2.2.1
  refine am_e_call rfl rfl (hx) rfl ?_
  refine am_e_aload_n rfl rfl ?_
  refine am_e_aload_n rfl rfl ?_
  refine am_e_iload rfl rfl ?_
  refine am_e_iconst (v := nI 1) rfl rfl ?_
  refine am_e_iadd rfl (nI_add _ _) ?_
  refine am_e_iald rfl rfl (am_ix_nI (show 7 * t + 1 < n by omega) (by omega)) (h01 _) ?_
  obtain ⟨μ2, hm, hf2⟩ := m_later (d + 39) (xs (7 * t + 1)) n ν hRm1.1 hO hRm1.2.1 hI ht
  have hl2 := frL_rf ν
  refine am_e_call rfl rfl (hm) rfl ?_
  refine am_e_icmp_eq rfl (fun c_716 => ?_) (fun c_716 => absurd rfl c_716)
  exact am_v0 ⟨rfl, rfl, rfl, _, _, rfl, REL_fr (fr_tr hf1 hf2) hl2 hR0⟩

theorem lw_c15 (d n t T : Nat) (l5 l6 : Option Value) {xs : Nat → Int32} {μ : am_M2} {ν : am_N2} (hn : n ≤ 3584) (hi : 7 * t + 7 ≤ n) (hT : T < 2 ^ 19) (hR : REL T xs μ ν) : am_v (d + 46) (Option.some FieldType.boolean) am_gl 721 [some (.ref 0), some (.ref 2), some (.ref 133), some (.ref 151), some (.int (nI (7 * t))), l5, l6] [] (am_hp n μ ν) (lawQz n t T xs l5 l6) := by
  have hR0 := hR
  obtain ⟨X, V, nm, W, U, K, S, Y, hTp, hLg, ⟨hRx, hRm⟩, hG, hNm, h0⟩ := hR
  obtain ⟨hO, ⟨hI, hWt⟩, hU, hKm, hN, hYo⟩ := id hG
  have ht : W.2.2 < 2 ^ 20 := by omega
  refine am_e_aload_n rfl rfl ?_
  obtain ⟨μ1, hx, hf1⟩ := x_bare (d + 39) n ν hRx.1 hO hRx.2.1 hI ht
  have hRm1 := mR_fr hf1 hRm
  have h01 : ∀ k, μ1 0 k = xs k := fun k => (hf1 0 k (by omega)).trans (h0 k)
  have hTm1 : μ1 133 2 = nI X.2 := (hf1 133 2 (by omega)).trans hTp.2.2.1
  refine am_e_call rfl rfl (hx) rfl ?_
  refine am_e_aload_n rfl rfl ?_
  obtain ⟨μ2, hm, hf2⟩ := m_bare (d + 39) n ν hRm1.1 hO hRm1.2.1 hI ht
  have hl2 := frL_rf ν
  refine am_e_call rfl rfl (hm) rfl ?_
  refine am_e_icmp_eq rfl (fun c_729 => ?_) (fun c_729 => absurd rfl c_729)
  exact am_v0 ⟨rfl, rfl, rfl, _, _, rfl, REL_fr (fr_tr hf1 hf2) hl2 hR0⟩

theorem lw_c16 (d n t T : Nat) (l5 l6 : Option Value) {xs : Nat → Int32} {μ : am_M2} {ν : am_N2} (hn : n ≤ 3584) (hi : 7 * t + 7 ≤ n) (hT : T < 2 ^ 19) (hR : REL T xs μ ν) : am_v (d + 46) (Option.some FieldType.boolean) am_gl 734 [some (.ref 0), some (.ref 2), some (.ref 133), some (.ref 151), some (.int (nI (7 * t))), l5, l6] [] (am_hp n μ ν) (lawQz n t T xs l5 l6) := by
  have hR0 := hR
  obtain ⟨X, V, nm, W, U, K, S, Y, hTp, hLg, ⟨hRx, hRm⟩, hG, hNm, h0⟩ := hR
  obtain ⟨hO, ⟨hI, hWt⟩, hU, hKm, hN, hYo⟩ := id hG
  have ht : W.2.2 < 2 ^ 20 := by omega
  refine am_e_aload_n rfl rfl ?_
  obtain ⟨μ1, hx, hf1⟩ := x_first (d + 39) n ν hRx.1 hO hRx.2.1 hI ht
  have hRm1 := mR_fr hf1 hRm
  have h01 : ∀ k, μ1 0 k = xs k := fun k => (hf1 0 k (by omega)).trans (h0 k)
  have hTm1 : μ1 133 2 = nI X.2 := (hf1 133 2 (by omega)).trans hTp.2.2.1
  refine am_e_call rfl rfl (hx) rfl ?_
  refine am_e_aload_n rfl rfl ?_
  obtain ⟨μ2, hm, hf2⟩ := m_first (d + 39) n ν hRm1.1 hO hRm1.2.1 hI ht
  have hl2 := frL_rf ν
  refine am_e_call rfl rfl (hm) rfl ?_
  refine am_e_icmp_eq rfl (fun c_742 => ?_) (fun c_742 => absurd rfl c_742)
  exact am_v0 ⟨rfl, rfl, rfl, _, _, rfl, REL_fr (fr_tr hf1 hf2) hl2 hR0⟩

theorem lw_c17 (d n t T : Nat) (l5 l6 : Option Value) {xs : Nat → Int32} {μ : am_M2} {ν : am_N2} (hn : n ≤ 3584) (hi : 7 * t + 7 ≤ n) (hT : T < 2 ^ 19) (hR : REL T xs μ ν) : am_v (d + 46) (Option.some FieldType.boolean) am_gl 747 [some (.ref 0), some (.ref 2), some (.ref 133), some (.ref 151), some (.int (nI (7 * t))), l5, l6] [] (am_hp n μ ν) (lawQz n t T xs l5 l6) := by
  have hR0 := hR
  obtain ⟨X, V, nm, W, U, K, S, Y, hTp, hLg, ⟨hRx, hRm⟩, hG, hNm, h0⟩ := hR
  obtain ⟨hO, ⟨hI, hWt⟩, hU, hKm, hN, hYo⟩ := id hG
  have ht : W.2.2 < 2 ^ 20 := by omega
  refine am_e_aload_n rfl rfl ?_
  refine am_e_aload_n rfl rfl ?_
  refine am_e_iload rfl rfl ?_
  refine am_e_iconst (v := nI 1) rfl rfl ?_
  refine am_e_iadd rfl (nI_add _ _) ?_
  refine am_e_iald rfl rfl (am_ix_nI (show 7 * t + 1 < n by omega) (by omega)) (h0 _) ?_
  obtain ⟨μ1, hx, hf1⟩ := x_least (d + 40) (xs (7 * t + 1)) n ν hRx.1 hO hRx.2.1 hI ht
  have hRm1 := mR_fr hf1 hRm
  have h01 : ∀ k, μ1 0 k = xs k := fun k => (hf1 0 k (by omega)).trans (h0 k)
  have hTm1 : μ1 133 2 = nI X.2 := (hf1 133 2 (by omega)).trans hTp.2.2.1
  refine am_e_call rfl rfl (hx) rfl ?_
  refine am_e_aload_n rfl rfl ?_
  refine am_e_aload_n rfl rfl ?_
  refine am_e_iload rfl rfl ?_
  refine am_e_iconst (v := nI 1) rfl rfl ?_
  refine am_e_iadd rfl (nI_add _ _) ?_
  refine am_e_iald rfl rfl (am_ix_nI (show 7 * t + 1 < n by omega) (by omega)) (h01 _) ?_
  obtain ⟨μ2, hm, hf2⟩ := m_least (d + 41) (xs (7 * t + 1)) n ν hRm1.1 hO hRm1.2.1 hI ht
  have hl2 := frL_rf ν
  refine am_e_call rfl rfl (hm) rfl ?_
  refine am_e_icmp_eq rfl (fun c_767 => ?_) (fun c_767 => absurd rfl c_767)
  exact am_v0 ⟨rfl, rfl, rfl, _, _, rfl, REL_fr (fr_tr hf1 hf2) hl2 hR0⟩

theorem lw_c18 (d n t T : Nat) (l5 l6 : Option Value) {xs : Nat → Int32} {μ : am_M2} {ν : am_N2} (hn : n ≤ 3584) (hi : 7 * t + 7 ≤ n) (hT : T < 2 ^ 19) (hR : REL T xs μ ν) : am_v (d + 46) (Option.some FieldType.boolean) am_gl 772 [some (.ref 0), some (.ref 2), some (.ref 133), some (.ref 151), some (.int (nI (7 * t))), l5, l6] [] (am_hp n μ ν) (lawQz n t T xs l5 l6) := by
  have hR0 := hR
  obtain ⟨X, V, nm, W, U, K, S, Y, hTp, hLg, ⟨hRx, hRm⟩, hG, hNm, h0⟩ := hR
  obtain ⟨hO, ⟨hI, hWt⟩, hU, hKm, hN, hYo⟩ := id hG
  have ht : W.2.2 < 2 ^ 20 := by omega
  refine am_e_aload_n rfl rfl ?_
  obtain ⟨μ1, hx, hf1⟩ := x_ways (d + 40) n ν hRx.1 hO hRx.2.1 hI ht
  have hRm1 := mR_fr hf1 hRm
  have h01 : ∀ k, μ1 0 k = xs k := fun k => (hf1 0 k (by omega)).trans (h0 k)
  have hTm1 : μ1 133 2 = nI X.2 := (hf1 133 2 (by omega)).trans hTp.2.2.1
  refine am_e_call rfl rfl (hx) rfl ?_
  refine am_e_aload_n rfl rfl ?_
  obtain ⟨μ2, hm, hf2⟩ := m_ways (d + 30) n ν hRm1 hO hI ht hN
  have hl2 := frL_rf ν
  refine am_e_call rfl rfl (hm) rfl ?_
  refine am_e_icmp_eq rfl (fun c_780 => ?_) (fun c_780 => absurd rfl c_780)
  exact am_v0 ⟨rfl, rfl, rfl, _, _, rfl, REL_fr (fr_tr hf1 hf2) hl2 hR0⟩

theorem lw_c19 (d n t T : Nat) (l5 l6 : Option Value) {xs : Nat → Int32} {μ : am_M2} {ν : am_N2} (hn : n ≤ 3584) (hi : 7 * t + 7 ≤ n) (hT : T < 2 ^ 19) (hR : REL T xs μ ν) : am_v (d + 46) (Option.some FieldType.boolean) am_gl 785 [some (.ref 0), some (.ref 2), some (.ref 133), some (.ref 151), some (.int (nI (7 * t))), l5, l6] [] (am_hp n μ ν) (lawQz n t T xs l5 l6) := by
  have hR0 := hR
  obtain ⟨X, V, nm, W, U, K, S, Y, hTp, hLg, ⟨hRx, hRm⟩, hG, hNm, h0⟩ := hR
  obtain ⟨hO, ⟨hI, hWt⟩, hU, hKm, hN, hYo⟩ := id hG
  have ht : W.2.2 < 2 ^ 20 := by omega
  refine am_e_aload_n rfl rfl ?_
  refine am_e_aload_n rfl rfl ?_
  refine am_e_iload rfl rfl ?_
  refine am_e_iconst (v := nI 1) rfl rfl ?_
  refine am_e_iadd rfl (nI_add _ _) ?_
  refine am_e_iald rfl rfl (am_ix_nI (show 7 * t + 1 < n by omega) (by omega)) (h0 _) ?_
  refine am_e_aload_n rfl rfl ?_
  refine am_e_iload rfl rfl ?_
  refine am_e_iconst (v := nI 2) rfl rfl ?_
  refine am_e_iadd rfl (nI_add _ _) ?_
  refine am_e_iald rfl rfl (am_ix_nI (show 7 * t + 2 < n by omega) (by omega)) (h0 _) ?_
  obtain ⟨μ1, hx, hf1⟩ := x_way (d + 40) (xs (7 * t + 1)) (xs (7 * t + 2)) n ν hRx.1 hO hRx.2.1 hI ht
  have hRm1 := mR_fr hf1 hRm
  have h01 : ∀ k, μ1 0 k = xs k := fun k => (hf1 0 k (by omega)).trans (h0 k)
  have hTm1 : μ1 133 2 = nI X.2 := (hf1 133 2 (by omega)).trans hTp.2.2.1
  refine am_e_call rfl rfl (hx) rfl ?_
  refine am_e_aload_n rfl rfl ?_
  refine am_e_aload_n rfl rfl ?_
  refine am_e_iload rfl rfl ?_
  refine am_e_iconst (v := nI 1) rfl rfl ?_
  refine am_e_iadd rfl (nI_add _ _) ?_
  refine am_e_iald rfl rfl (am_ix_nI (show 7 * t + 1 < n by omega) (by omega)) (h01 _) ?_
  refine am_e_aload_n rfl rfl ?_
  refine am_e_iload rfl rfl ?_
  refine am_e_iconst (v := nI 2) rfl rfl ?_
  refine am_e_iadd rfl (nI_add _ _) ?_
  refine am_e_iald rfl rfl (am_ix_nI (show 7 * t + 2 < n by omega) (by omega)) (h01 _) ?_
  obtain ⟨μ2, hm, hf2⟩ := m_way (d + 30) (xs (7 * t + 1)) (xs (7 * t + 2)) n ν hRm1 hO hI ht hN
  have hl2 := frL_rf ν
  refine am_e_call rfl rfl (hm) rfl ?_
  refine am_e_icmp_eq rfl (fun c_817 => ?_) (fun c_817 => absurd rfl c_817)
  exact am_v0 ⟨rfl, rfl, rfl, _, _, rfl, REL_fr (fr_tr hf1 hf2) hl2 hR0⟩

theorem lw_c20 (d n t T : Nat) (l5 l6 : Option Value) {xs : Nat → Int32} {μ : am_M2} {ν : am_N2} (hn : n ≤ 3584) (hi : 7 * t + 7 ≤ n) (hT : T < 2 ^ 19) (hR : REL T xs μ ν) : am_v (d + 46) (Option.some FieldType.boolean) am_gl 822 [some (.ref 0), some (.ref 2), some (.ref 133), some (.ref 151), some (.int (nI (7 * t))), l5, l6] [] (am_hp n μ ν) (lawQz n t T xs l5 l6) := by
  have hR0 := hR
  obtain ⟨X, V, nm, W, U, K, S, Y, hTp, hLg, ⟨hRx, hRm⟩, hG, hNm, h0⟩ := hR
  obtain ⟨hO, ⟨hI, hWt⟩, hU, hKm, hN, hYo⟩ := id hG
  have ht : W.2.2 < 2 ^ 20 := by omega
  refine am_e_aload_n rfl rfl ?_
  refine am_e_aload_n rfl rfl ?_
  refine am_e_iload rfl rfl ?_
  refine am_e_iconst (v := nI 1) rfl rfl ?_
  refine am_e_iadd rfl (nI_add _ _) ?_
  refine am_e_iald rfl rfl (am_ix_nI (show 7 * t + 1 < n by omega) (by omega)) (h0 _) ?_
  refine am_e_aload_n rfl rfl ?_
  refine am_e_iload rfl rfl ?_
  refine am_e_iconst (v := nI 2) rfl rfl ?_
  refine am_e_iadd rfl (nI_add _ _) ?_
  refine am_e_iald rfl rfl (am_ix_nI (show 7 * t + 2 < n by omega) (by omega)) (h0 _) ?_
  obtain ⟨μ1, hx, hf1⟩ := x_times (d + 40) (xs (7 * t + 1)) (xs (7 * t + 2)) n ν hRx.1 hO hRx.2.1 hI ht
  have hRm1 := mR_fr hf1 hRm
  have h01 : ∀ k, μ1 0 k = xs k := fun k => (hf1 0 k (by omega)).trans (h0 k)
  have hTm1 : μ1 133 2 = nI X.2 := (hf1 133 2 (by omega)).trans hTp.2.2.1
  refine am_e_call rfl rfl (hx) rfl ?_
  refine am_e_aload_n rfl rfl ?_
  refine am_e_aload_n rfl rfl ?_
  refine am_e_iload rfl rfl ?_
  refine am_e_iconst (v := nI 1) rfl rfl ?_
  refine am_e_iadd rfl (nI_add _ _) ?_
  refine am_e_iald rfl rfl (am_ix_nI (show 7 * t + 1 < n by omega) (by omega)) (h01 _) ?_
  refine am_e_aload_n rfl rfl ?_
  refine am_e_iload rfl rfl ?_
  refine am_e_iconst (v := nI 2) rfl rfl ?_
  refine am_e_iadd rfl (nI_add _ _) ?_
  refine am_e_iald rfl rfl (am_ix_nI (show 7 * t + 2 < n by omega) (by omega)) (h01 _) ?_
  obtain ⟨μ2, hm, hf2⟩ := m_times (d + 30) (xs (7 * t + 1)) (xs (7 * t + 2)) n ν hRm1 hO hI ht hN
  have hl2 := frL_rf ν
  refine am_e_call rfl rfl (hm) rfl ?_
  refine am_e_icmp_eq rfl (fun c_854 => ?_) (fun c_854 => absurd rfl c_854)
  exact am_v0 ⟨rfl, rfl, rfl, _, _, rfl, REL_fr (fr_tr hf1 hf2) hl2 hR0⟩

theorem lw_c21 (d n t T : Nat) (l5 l6 : Option Value) {xs : Nat → Int32} {μ : am_M2} {ν : am_N2} (hn : n ≤ 3584) (hi : 7 * t + 7 ≤ n) (hT : T < 2 ^ 19) (hR : REL T xs μ ν) : am_v (d + 46) (Option.some FieldType.boolean) am_gl 859 [some (.ref 0), some (.ref 2), some (.ref 133), some (.ref 151), some (.int (nI (7 * t))), l5, l6] [] (am_hp n μ ν) (lawQz n t T xs l5 l6) := by
  have hR0 := hR
  obtain ⟨X, V, nm, W, U, K, S, Y, hTp, hLg, ⟨hRx, hRm⟩, hG, hNm, h0⟩ := hR
  obtain ⟨hO, ⟨hI, hWt⟩, hU, hKm, hN, hYo⟩ := id hG
  have ht : W.2.2 < 2 ^ 20 := by omega
  refine am_e_aload_n rfl rfl ?_
  refine am_e_aload_n rfl rfl ?_
  refine am_e_iload rfl rfl ?_
  refine am_e_iconst (v := nI 1) rfl rfl ?_
  refine am_e_iadd rfl (nI_add _ _) ?_
  refine am_e_iald rfl rfl (am_ix_nI (show 7 * t + 1 < n by omega) (by omega)) (h0 _) ?_
  obtain ⟨μ1, hx, hf1⟩ := x_sure (d + 40) (xs (7 * t + 1)) n ν hRx.1 hO hRx.2.1 hI ht
  have hRm1 := mR_fr hf1 hRm
  have h01 : ∀ k, μ1 0 k = xs k := fun k => (hf1 0 k (by omega)).trans (h0 k)
  have hTm1 : μ1 133 2 = nI X.2 := (hf1 133 2 (by omega)).trans hTp.2.2.1
  refine am_e_call rfl rfl (hx) rfl ?_
  refine am_e_aload_n rfl rfl ?_
  refine am_e_aload_n rfl rfl ?_
  refine am_e_iload rfl rfl ?_
  refine am_e_iconst (v := nI 1) rfl rfl ?_
  refine am_e_iadd rfl (nI_add _ _) ?_
  refine am_e_iald rfl rfl (am_ix_nI (show 7 * t + 1 < n by omega) (by omega)) (h01 _) ?_
  obtain ⟨μ2, hm, hf2⟩ := m_sure (d + 30) (xs (7 * t + 1)) n ν hRm1 hO hI ht hN
  have hl2 := frL_rf ν
  refine am_e_call rfl rfl (hm) rfl ?_
  refine am_e_icmp_eq rfl (fun c_879 => ?_) (fun c_879 => absurd rfl c_879)
  exact am_v0 ⟨rfl, rfl, rfl, _, _, rfl, REL_fr (fr_tr hf1 hf2) hl2 hR0⟩

theorem lw_c22 (d n t T : Nat) (l5 l6 : Option Value) {xs : Nat → Int32} {μ : am_M2} {ν : am_N2} (hn : n ≤ 3584) (hi : 7 * t + 7 ≤ n) (hT : T < 2 ^ 19) (hR : REL T xs μ ν) : am_v (d + 46) (Option.some FieldType.boolean) am_gl 884 [some (.ref 0), some (.ref 2), some (.ref 133), some (.ref 151), some (.int (nI (7 * t))), l5, l6] [] (am_hp n μ ν) (lawQz n t T xs l5 l6) := by
  have hR0 := hR
  obtain ⟨X, V, nm, W, U, K, S, Y, hTp, hLg, ⟨hRx, hRm⟩, hG, hNm, h0⟩ := hR
  obtain ⟨hO, ⟨hI, hWt⟩, hU, hKm, hN, hYo⟩ := id hG
  have ht : W.2.2 < 2 ^ 20 := by omega
  refine am_e_aload_n rfl rfl ?_
  obtain ⟨μ1, hx, hf1⟩ := x_most (d + 38) n ν hRx.1 hO hRx.2.1 hI ht
  have hRm1 := mR_fr hf1 hRm
  have h01 : ∀ k, μ1 0 k = xs k := fun k => (hf1 0 k (by omega)).trans (h0 k)
  have hTm1 : μ1 133 2 = nI X.2 := (hf1 133 2 (by omega)).trans hTp.2.2.1
  refine am_e_call rfl rfl (hx) rfl ?_
  refine am_e_aload_n rfl rfl ?_
  obtain ⟨μ2, hm, hf2⟩ := m_most (d + 33) n ν hRm1.1 hO hRm1.2.1 hI ht
  have hl2 := frL_rf ν
  refine am_e_call rfl rfl (hm) rfl ?_
  refine am_e_icmp_eq rfl (fun c_892 => ?_) (fun c_892 => absurd rfl c_892)
  exact am_v0 ⟨rfl, rfl, rfl, _, _, rfl, REL_fr (fr_tr hf1 hf2) hl2 hR0⟩

theorem lw_c23 (d n t T : Nat) (l5 l6 : Option Value) {xs : Nat → Int32} {μ : am_M2} {ν : am_N2} (hn : n ≤ 3584) (hi : 7 * t + 7 ≤ n) (hT : T < 2 ^ 19) (hR : REL T xs μ ν) : am_v (d + 46) (Option.some FieldType.boolean) am_gl 897 [some (.ref 0), some (.ref 2), some (.ref 133), some (.ref 151), some (.int (nI (7 * t))), l5, l6] [] (am_hp n μ ν) (lawQz n t T xs l5 l6) := by
  have hR0 := hR
  obtain ⟨X, V, nm, W, U, K, S, Y, hTp, hLg, ⟨hRx, hRm⟩, hG, hNm, h0⟩ := hR
  obtain ⟨hO, ⟨hI, hWt⟩, hU, hKm, hN, hYo⟩ := id hG
  have ht : W.2.2 < 2 ^ 20 := by omega
  refine am_e_aload_n rfl rfl ?_
  obtain ⟨μ1, hx, hf1⟩ := x_fullest (d + 38) n ν hRx.1 hO hRx.2.1 hI ht
  have hRm1 := mR_fr hf1 hRm
  have h01 : ∀ k, μ1 0 k = xs k := fun k => (hf1 0 k (by omega)).trans (h0 k)
  have hTm1 : μ1 133 2 = nI X.2 := (hf1 133 2 (by omega)).trans hTp.2.2.1
  refine am_e_call rfl rfl (hx) rfl ?_
  refine am_e_aload_n rfl rfl ?_
  obtain ⟨μ2, hm, hf2⟩ := m_fullest (d + 33) n ν hRm1.1 hO hRm1.2.1 hI ht
  have hl2 := frL_rf ν
  refine am_e_call rfl rfl (hm) rfl ?_
  refine am_e_icmp_eq rfl (fun c_905 => ?_) (fun c_905 => absurd rfl c_905)
  exact am_v0 ⟨rfl, rfl, rfl, _, _, rfl, REL_fr (fr_tr hf1 hf2) hl2 hR0⟩

theorem lw_c24 (d n t T : Nat) (l5 l6 : Option Value) {xs : Nat → Int32} {μ : am_M2} {ν : am_N2} (hn : n ≤ 3584) (hi : 7 * t + 7 ≤ n) (hT : T < 2 ^ 19) (hR : REL T xs μ ν) : am_v (d + 46) (Option.some FieldType.boolean) am_gl 910 [some (.ref 0), some (.ref 2), some (.ref 133), some (.ref 151), some (.int (nI (7 * t))), l5, l6] [] (am_hp n μ ν) (lawQz n t T xs l5 l6) := by
  have hR0 := hR
  obtain ⟨X, V, nm, W, U, K, S, Y, hTp, hLg, ⟨hRx, hRm⟩, hG, hNm, h0⟩ := hR
  obtain ⟨hO, ⟨hI, hWt⟩, hU, hKm, hN, hYo⟩ := id hG
  have ht : W.2.2 < 2 ^ 20 := by omega
  refine am_e_aload_n rfl rfl ?_
  obtain ⟨μ1, hx, hf1⟩ := x_clear (d + 39) n ν hRx.1 hO hRx.2.1 hI ht
  have hRm1 := mR_fr hf1 hRm
  have h01 : ∀ k, μ1 0 k = xs k := fun k => (hf1 0 k (by omega)).trans (h0 k)
  have hTm1 : μ1 133 2 = nI X.2 := (hf1 133 2 (by omega)).trans hTp.2.2.1
  refine am_e_call rfl rfl (hx) rfl ?_
  refine am_e_aload_n rfl rfl ?_
  obtain ⟨μ2, hm, hf2⟩ := m_clear (d + 34) n ν hRm1.1 hO hRm1.2.1 hI ht
  have hl2 := frL_rf ν
  refine am_e_call rfl rfl (hm) rfl ?_
  refine am_e_icmp_eq rfl (fun c_918 => ?_) (fun c_918 => absurd rfl c_918)
  exact am_v0 ⟨rfl, rfl, rfl, _, _, rfl, REL_fr (fr_tr hf1 hf2) hl2 hR0⟩

theorem lw_c25 (d n t T : Nat) (l5 l6 : Option Value) {xs : Nat → Int32} {μ : am_M2} {ν : am_N2} (hn : n ≤ 3584) (hi : 7 * t + 7 ≤ n) (hT : T < 2 ^ 19) (hR : REL T xs μ ν) : am_v (d + 46) (Option.some FieldType.boolean) am_gl 923 [some (.ref 0), some (.ref 2), some (.ref 133), some (.ref 151), some (.int (nI (7 * t))), l5, l6] [] (am_hp n μ ν) (lawQz n t T xs l5 l6) := by
  have hR0 := hR
  obtain ⟨X, V, nm, W, U, K, S, Y, hTp, hLg, ⟨hRx, hRm⟩, hG, hNm, h0⟩ := hR
  obtain ⟨hO, ⟨hI, hWt⟩, hU, hKm, hN, hYo⟩ := id hG
  have ht : W.2.2 < 2 ^ 20 := by omega
  refine am_e_aload_n rfl rfl ?_
  refine am_e_aload_n rfl rfl ?_
  refine am_e_iload rfl rfl ?_
  refine am_e_iconst (v := nI 1) rfl rfl ?_
  refine am_e_iadd rfl (nI_add _ _) ?_
  refine am_e_iald rfl rfl (am_ix_nI (show 7 * t + 1 < n by omega) (by omega)) (h0 _) ?_
  refine am_e_aload_n rfl rfl ?_
  refine am_e_iload rfl rfl ?_
  refine am_e_iconst (v := nI 2) rfl rfl ?_
  refine am_e_iadd rfl (nI_add _ _) ?_
  refine am_e_iald rfl rfl (am_ix_nI (show 7 * t + 2 < n by omega) (by omega)) (h0 _) ?_
  obtain ⟨μ1, hx, hf1⟩ := x_best (d + 40) (xs (7 * t + 1)) (xs (7 * t + 2)) n ν hRx.1 hO hRx.2.1 hI ht
  have hRm1 := mR_fr hf1 hRm
  have h01 : ∀ k, μ1 0 k = xs k := fun k => (hf1 0 k (by omega)).trans (h0 k)
  have hTm1 : μ1 133 2 = nI X.2 := (hf1 133 2 (by omega)).trans hTp.2.2.1
  refine am_e_call rfl rfl (hx) rfl ?_
  refine am_e_aload_n rfl rfl ?_
  refine am_e_aload_n rfl rfl ?_
  refine am_e_iload rfl rfl ?_
  refine am_e_iconst (v := nI 1) rfl rfl ?_
  refine am_e_iadd rfl (nI_add _ _) ?_
  refine am_e_iald rfl rfl (am_ix_nI (show 7 * t + 1 < n by omega) (by omega)) (h01 _) ?_
  refine am_e_aload_n rfl rfl ?_
  refine am_e_iload rfl rfl ?_
  refine am_e_iconst (v := nI 2) rfl rfl ?_
  refine am_e_iadd rfl (nI_add _ _) ?_
  refine am_e_iald rfl rfl (am_ix_nI (show 7 * t + 2 < n by omega) (by omega)) (h01 _) ?_
  obtain ⟨μ2, hm, hf2⟩ := m_best (d + 30) (xs (7 * t + 1)) (xs (7 * t + 2)) n ν hRm1 hO hI ht hN
  have hl2 := frL_rf ν
  refine am_e_call rfl rfl (hm) rfl ?_
  refine am_e_icmp_eq rfl (fun c_955 => ?_) (fun c_955 => absurd rfl c_955)
  exact am_v0 ⟨rfl, rfl, rfl, _, _, rfl, REL_fr (fr_tr hf1 hf2) hl2 hR0⟩

theorem lw_c26 (d n t T : Nat) (l5 l6 : Option Value) {xs : Nat → Int32} {μ : am_M2} {ν : am_N2} (hn : n ≤ 3584) (hi : 7 * t + 7 ≤ n) (hT : T < 2 ^ 19) (hR : REL T xs μ ν) : am_v (d + 46) (Option.some FieldType.boolean) am_gl 960 [some (.ref 0), some (.ref 2), some (.ref 133), some (.ref 151), some (.int (nI (7 * t))), l5, l6] [] (am_hp n μ ν) (lawQz n t T xs l5 l6) := by
  have hR0 := hR
  obtain ⟨X, V, nm, W, U, K, S, Y, hTp, hLg, ⟨hRx, hRm⟩, hG, hNm, h0⟩ := hR
  obtain ⟨hO, ⟨hI, hWt⟩, hU, hKm, hN, hYo⟩ := id hG
  have ht : W.2.2 < 2 ^ 20 := by omega
  refine am_e_aload_n rfl rfl ?_
  have hf1 := fr_rf μ
  have hRm1 := mR_fr hf1 hRm
  have h01 : ∀ k, μ 0 k = xs k := fun k => (hf1 0 k (by omega)).trans (h0 k)
  have hTm1 : μ 133 2 = nI X.2 := (hf1 133 2 (by omega)).trans hTp.2.2.1
  refine am_e_call rfl rfl (x_lean (d + 42) n ν hRx.1 hO hRx.2.1 hI ht) rfl ?_
  refine am_e_aload_n rfl rfl ?_
  have hf2 := fr_thr μ
  have hl2 := frL_rf ν
  refine am_e_call rfl rfl (m_lean (d + 42) n ν hRm1.1 hO hRm1.2.1 hI ht) rfl ?_
  refine am_e_icmp_eq rfl (fun c_968 => ?_) (fun c_968 => absurd rfl c_968)
  exact am_v0 ⟨rfl, rfl, rfl, _, _, rfl, REL_fr (fr_tr hf1 hf2) hl2 hR0⟩

theorem lw_c27 (d n t T : Nat) (l5 l6 : Option Value) {xs : Nat → Int32} {μ : am_M2} {ν : am_N2} (hn : n ≤ 3584) (hi : 7 * t + 7 ≤ n) (hT : T < 2 ^ 19) (hR : REL T xs μ ν) : am_v (d + 46) (Option.some FieldType.boolean) am_gl 973 [some (.ref 0), some (.ref 2), some (.ref 133), some (.ref 151), some (.int (nI (7 * t))), l5, l6] [] (am_hp n μ ν) (lawQz n t T xs l5 l6) := by
  have hR0 := hR
  obtain ⟨X, V, nm, W, U, K, S, Y, hTp, hLg, ⟨hRx, hRm⟩, hG, hNm, h0⟩ := hR
  obtain ⟨hO, ⟨hI, hWt⟩, hU, hKm, hN, hYo⟩ := id hG
  have ht : W.2.2 < 2 ^ 20 := by omega
  refine am_e_aload_n rfl rfl ?_
  refine am_e_aload_n rfl rfl ?_
  refine am_e_iload rfl rfl ?_
  refine am_e_iconst (v := nI 1) rfl rfl ?_
  refine am_e_iadd rfl (nI_add _ _) ?_
  refine am_e_iald rfl rfl (am_ix_nI (show 7 * t + 1 < n by omega) (by omega)) (h0 _) ?_
  obtain ⟨μ1, hx, hf1⟩ := x_even (d + 40) (xs (7 * t + 1)) n ν hRx.1 hO hRx.2.1 hI ht
  have hRm1 := mR_fr hf1 hRm
  have h01 : ∀ k, μ1 0 k = xs k := fun k => (hf1 0 k (by omega)).trans (h0 k)
  have hTm1 : μ1 133 2 = nI X.2 := (hf1 133 2 (by omega)).trans hTp.2.2.1
  refine am_e_call rfl rfl (hx) rfl ?_
  refine am_e_aload_n rfl rfl ?_
  refine am_e_aload_n rfl rfl ?_
  refine am_e_iload rfl rfl ?_
  refine am_e_iconst (v := nI 1) rfl rfl ?_
  refine am_e_iadd rfl (nI_add _ _) ?_
  refine am_e_iald rfl rfl (am_ix_nI (show 7 * t + 1 < n by omega) (by omega)) (h01 _) ?_
  obtain ⟨μ2, hm, hf2⟩ := m_even (d + 30) (xs (7 * t + 1)) n ν hRm1 hO hI ht hN
  have hl2 := frL_rf ν
  refine am_e_call rfl rfl (hm) rfl ?_
  refine am_e_icmp_eq rfl (fun c_993 => ?_) (fun c_993 => absurd rfl c_993)
  exact am_v0 ⟨rfl, rfl, rfl, _, _, rfl, REL_fr (fr_tr hf1 hf2) hl2 hR0⟩

theorem lw_c28 (d n t T : Nat) (l5 l6 : Option Value) {xs : Nat → Int32} {μ : am_M2} {ν : am_N2} (hn : n ≤ 3584) (hi : 7 * t + 7 ≤ n) (hT : T < 2 ^ 19) (hR : REL T xs μ ν) : am_v (d + 46) (Option.some FieldType.boolean) am_gl 998 [some (.ref 0), some (.ref 2), some (.ref 133), some (.ref 151), some (.int (nI (7 * t))), l5, l6] [] (am_hp n μ ν) (lawQz n t T xs l5 l6) := by
  have hR0 := hR
  obtain ⟨X, V, nm, W, U, K, S, Y, hTp, hLg, ⟨hRx, hRm⟩, hG, hNm, h0⟩ := hR
  obtain ⟨hO, ⟨hI, hWt⟩, hU, hKm, hN, hYo⟩ := id hG
  have ht : W.2.2 < 2 ^ 20 := by omega
  refine am_e_aload_n rfl rfl ?_
  obtain ⟨μ1, hx, hf1⟩ := x_colours (d + 35) n ν hRx.1 hO hRx.2.1 hI ht
  have hRm1 := mR_fr hf1 hRm
  have h01 : ∀ k, μ1 0 k = xs k := fun k => (hf1 0 k (by omega)).trans (h0 k)
  have hTm1 : μ1 133 2 = nI X.2 := (hf1 133 2 (by omega)).trans hTp.2.2.1
  refine am_e_call rfl rfl (hx) rfl ?_
  refine am_e_aload_n rfl rfl ?_
  obtain ⟨μ2, hm, hf2⟩ := m_colours (d + 34) n ν hRm1.1 hO hRm1.2.1 hI ht
  have hl2 := frL_rf ν
  refine am_e_call rfl rfl (hm) rfl ?_
  refine am_e_icmp_eq rfl (fun c_1006 => ?_) (fun c_1006 => absurd rfl c_1006)
  exact am_v0 ⟨rfl, rfl, rfl, _, _, rfl, REL_fr (fr_tr hf1 hf2) hl2 hR0⟩

theorem lw_c29 (d n t T : Nat) (l5 l6 : Option Value) {xs : Nat → Int32} {μ : am_M2} {ν : am_N2} (hn : n ≤ 3584) (hi : 7 * t + 7 ≤ n) (hT : T < 2 ^ 19) (hR : REL T xs μ ν) : am_v (d + 46) (Option.some FieldType.boolean) am_gl 1011 [some (.ref 0), some (.ref 2), some (.ref 133), some (.ref 151), some (.int (nI (7 * t))), l5, l6] [] (am_hp n μ ν) (lawQz n t T xs l5 l6) := by
  have hR0 := hR
  obtain ⟨X, V, nm, W, U, K, S, Y, hTp, hLg, ⟨hRx, hRm⟩, hG, hNm, h0⟩ := hR
  obtain ⟨hO, ⟨hI, hWt⟩, hU, hKm, hN, hYo⟩ := id hG
  have ht : W.2.2 < 2 ^ 20 := by omega
  refine am_e_aload_n rfl rfl ?_
  refine am_e_aload_n rfl rfl ?_
  refine am_e_iload rfl rfl ?_
  refine am_e_iconst (v := nI 1) rfl rfl ?_
  refine am_e_iadd rfl (nI_add _ _) ?_
  refine am_e_iald rfl rfl (am_ix_nI (show 7 * t + 1 < n by omega) (by omega)) (h0 _) ?_
  obtain ⟨μ1, hx, hf1⟩ := x_colour (d + 35) (xs (7 * t + 1)) n ν hRx.1 hO hRx.2.1 hI ht
  have hRm1 := mR_fr hf1 hRm
  have h01 : ∀ k, μ1 0 k = xs k := fun k => (hf1 0 k (by omega)).trans (h0 k)
  have hTm1 : μ1 133 2 = nI X.2 := (hf1 133 2 (by omega)).trans hTp.2.2.1
  refine am_e_call rfl rfl (hx) rfl ?_
  refine am_e_aload_n rfl rfl ?_
  refine am_e_aload_n rfl rfl ?_
  refine am_e_iload rfl rfl ?_
  refine am_e_iconst (v := nI 1) rfl rfl ?_
  refine am_e_iadd rfl (nI_add _ _) ?_
  refine am_e_iald rfl rfl (am_ix_nI (show 7 * t + 1 < n by omega) (by omega)) (h01 _) ?_
  obtain ⟨μ2, hm, hf2⟩ := m_colour (d + 34) (xs (7 * t + 1)) n ν hRm1.1 hO hRm1.2.1 hI ht
  have hl2 := frL_rf ν
  refine am_e_call rfl rfl (hm) rfl ?_
  refine am_e_icmp_eq rfl (fun c_1031 => ?_) (fun c_1031 => absurd rfl c_1031)
  exact am_v0 ⟨rfl, rfl, rfl, _, _, rfl, REL_fr (fr_tr hf1 hf2) hl2 hR0⟩

theorem lw_c30 (d n t T : Nat) (l5 l6 : Option Value) {xs : Nat → Int32} {μ : am_M2} {ν : am_N2} (hn : n ≤ 3584) (hi : 7 * t + 7 ≤ n) (hT : T < 2 ^ 19) (hR : REL T xs μ ν) : am_v (d + 46) (Option.some FieldType.boolean) am_gl 1036 [some (.ref 0), some (.ref 2), some (.ref 133), some (.ref 151), some (.int (nI (7 * t))), l5, l6] [] (am_hp n μ ν) (lawQz n t T xs l5 l6) := by
  have hR0 := hR
  obtain ⟨X, V, nm, W, U, K, S, Y, hTp, hLg, ⟨hRx, hRm⟩, hG, hNm, h0⟩ := hR
  obtain ⟨hO, ⟨hI, hWt⟩, hU, hKm, hN, hYo⟩ := id hG
  have ht : W.2.2 < 2 ^ 20 := by omega
  refine am_e_aload_n rfl rfl ?_
  have hf1 := fr_rf μ
  have hRm1 := mR_fr hf1 hRm
  have h01 : ∀ k, μ 0 k = xs k := fun k => (hf1 0 k (by omega)).trans (h0 k)
  have hTm1 : μ 133 2 = nI X.2 := (hf1 133 2 (by omega)).trans hTp.2.2.1
  refine am_e_call rfl rfl (x_feud (d + 42) n ν hRx.1 hO hRx.2.1 hI ht) rfl ?_
  refine am_e_aload_n rfl rfl ?_
  have hf2 := fr_thr μ
  have hl2 := frL_rf ν
  refine am_e_call rfl rfl (m_feud (d + 41) n ν hRm1.1 hO hRm1.2.1 hI ht) rfl ?_
  refine am_e_icmp_eq rfl (fun c_1044 => ?_) (fun c_1044 => absurd rfl c_1044)
  exact am_v0 ⟨rfl, rfl, rfl, _, _, rfl, REL_fr (fr_tr hf1 hf2) hl2 hR0⟩

theorem lw_c31 (d n t T : Nat) (l5 l6 : Option Value) {xs : Nat → Int32} {μ : am_M2} {ν : am_N2} (hn : n ≤ 3584) (hi : 7 * t + 7 ≤ n) (hT : T < 2 ^ 19) (hR : REL T xs μ ν) : am_v (d + 46) (Option.some FieldType.boolean) am_gl 1049 [some (.ref 0), some (.ref 2), some (.ref 133), some (.ref 151), some (.int (nI (7 * t))), l5, l6] [] (am_hp n μ ν) (lawQz n t T xs l5 l6) := by
  have hR0 := hR
  obtain ⟨X, V, nm, W, U, K, S, Y, hTp, hLg, ⟨hRx, hRm⟩, hG, hNm, h0⟩ := hR
  obtain ⟨hO, ⟨hI, hWt⟩, hU, hKm, hN, hYo⟩ := id hG
  have ht : W.2.2 < 2 ^ 20 := by omega
  refine am_e_aload_n rfl rfl ?_
  have hf1 := fr_rf μ
  have hRm1 := mR_fr hf1 hRm
  have h01 : ∀ k, μ 0 k = xs k := fun k => (hf1 0 k (by omega)).trans (h0 k)
  have hTm1 : μ 133 2 = nI X.2 := (hf1 133 2 (by omega)).trans hTp.2.2.1
  refine am_e_call rfl rfl (x_calm (d + 42) n ν hRx.1 hO hRx.2.1 hI ht) rfl ?_
  refine am_e_aload_n rfl rfl ?_
  have hf2 := fr_thr μ
  have hl2 := frL_rf ν
  refine am_e_call rfl rfl (m_calm (d + 41) n ν hRm1.1 hO hRm1.2.1 hI ht) rfl ?_
  refine am_e_icmp_eq rfl (fun c_1057 => ?_) (fun c_1057 => absurd rfl c_1057)
  exact am_v0 ⟨rfl, rfl, rfl, _, _, rfl, REL_fr (fr_tr hf1 hf2) hl2 hR0⟩

theorem lw_c32 (d n t T : Nat) (l5 l6 : Option Value) {xs : Nat → Int32} {μ : am_M2} {ν : am_N2} (hn : n ≤ 3584) (hi : 7 * t + 7 ≤ n) (hT : T < 2 ^ 19) (hR : REL T xs μ ν) : am_v (d + 46) (Option.some FieldType.boolean) am_gl 1062 [some (.ref 0), some (.ref 2), some (.ref 133), some (.ref 151), some (.int (nI (7 * t))), l5, l6] [] (am_hp n μ ν) (lawQz n t T xs l5 l6) := by
  have hR0 := hR
  obtain ⟨X, V, nm, W, U, K, S, Y, hTp, hLg, ⟨hRx, hRm⟩, hG, hNm, h0⟩ := hR
  obtain ⟨hO, ⟨hI, hWt⟩, hU, hKm, hN, hYo⟩ := id hG
  have ht : W.2.2 < 2 ^ 20 := by omega
  refine am_e_aload_n rfl rfl ?_
  refine am_e_aload_n rfl rfl ?_
  refine am_e_iload rfl rfl ?_
  refine am_e_iconst (v := nI 1) rfl rfl ?_
  refine am_e_iadd rfl (nI_add _ _) ?_
  refine am_e_iald rfl rfl (am_ix_nI (show 7 * t + 1 < n by omega) (by omega)) (h0 _) ?_
  have hf1 := fr_rf μ
  have hRm1 := mR_fr hf1 hRm
  have h01 : ∀ k, μ 0 k = xs k := fun k => (hf1 0 k (by omega)).trans (h0 k)
  have hTm1 : μ 133 2 = nI X.2 := (hf1 133 2 (by omega)).trans hTp.2.2.1
  refine am_e_call rfl rfl (x_grudges (d + 43) (xs (7 * t + 1)) n ν hRx.1 hO hRx.2.1 hI ht) rfl ?_
  refine am_e_aload_n rfl rfl ?_
  refine am_e_aload_n rfl rfl ?_
  refine am_e_iload rfl rfl ?_
  refine am_e_iconst (v := nI 1) rfl rfl ?_
  refine am_e_iadd rfl (nI_add _ _) ?_
  refine am_e_iald rfl rfl (am_ix_nI (show 7 * t + 1 < n by omega) (by omega)) (h01 _) ?_
  have hf2 := fr_thr μ
  have hl2 := frL_rf ν
  refine am_e_call rfl rfl (m_grudges (d + 43) (xs (7 * t + 1)) n ν hRm1.1 hO hRm1.2.1 hI ht) rfl ?_
  refine am_e_icmp_eq rfl (fun c_1082 => ?_) (fun c_1082 => absurd rfl c_1082)
  exact am_v0 ⟨rfl, rfl, rfl, _, _, rfl, REL_fr (fr_tr hf1 hf2) hl2 hR0⟩

theorem lw_c33 (d n t T : Nat) (l5 l6 : Option Value) {xs : Nat → Int32} {μ : am_M2} {ν : am_N2} (hn : n ≤ 3584) (hi : 7 * t + 7 ≤ n) (hT : T < 2 ^ 19) (hR : REL T xs μ ν) : am_v (d + 46) (Option.some FieldType.boolean) am_gl 1087 [some (.ref 0), some (.ref 2), some (.ref 133), some (.ref 151), some (.int (nI (7 * t))), l5, l6] [] (am_hp n μ ν) (lawQz n t T xs l5 l6) := by
  have hR0 := hR
  obtain ⟨X, V, nm, W, U, K, S, Y, hTp, hLg, ⟨hRx, hRm⟩, hG, hNm, h0⟩ := hR
  obtain ⟨hO, ⟨hI, hWt⟩, hU, hKm, hN, hYo⟩ := id hG
  have ht : W.2.2 < 2 ^ 20 := by omega
  refine am_e_aload_n rfl rfl ?_
  have hf1 := fr_rf μ
  have hRm1 := mR_fr hf1 hRm
  have h01 : ∀ k, μ 0 k = xs k := fun k => (hf1 0 k (by omega)).trans (h0 k)
  have hTm1 : μ 133 2 = nI X.2 := (hf1 133 2 (by omega)).trans hTp.2.2.1
  refine am_e_call rfl rfl (x_load (d + 43) n ν hRx.1 hO hRx.2.1 hI ht) rfl ?_
  refine am_e_aload_n rfl rfl ?_
  have hf2 := fr_thr μ
  have hl2 := frL_rf ν
  refine am_e_call rfl rfl (m_load (d + 42) n ν hRm1.1 hO hRm1.2.1 hI ht) rfl ?_
  refine am_e_icmp_eq rfl (fun c_1095 => ?_) (fun c_1095 => absurd rfl c_1095)
  exact am_v0 ⟨rfl, rfl, rfl, _, _, rfl, REL_fr (fr_tr hf1 hf2) hl2 hR0⟩

theorem lw_c34 (d n t T : Nat) (l5 l6 : Option Value) {xs : Nat → Int32} {μ : am_M2} {ν : am_N2} (hn : n ≤ 3584) (hi : 7 * t + 7 ≤ n) (hT : T < 2 ^ 19) (hR : REL T xs μ ν) : am_v (d + 46) (Option.some FieldType.boolean) am_gl 1100 [some (.ref 0), some (.ref 2), some (.ref 133), some (.ref 151), some (.int (nI (7 * t))), l5, l6] [] (am_hp n μ ν) (lawQz n t T xs l5 l6) := by
  have hR0 := hR
  obtain ⟨X, V, nm, W, U, K, S, Y, hTp, hLg, ⟨hRx, hRm⟩, hG, hNm, h0⟩ := hR
  obtain ⟨hO, ⟨hI, hWt⟩, hU, hKm, hN, hYo⟩ := id hG
  have ht : W.2.2 < 2 ^ 20 := by omega
  refine am_e_aload_n rfl rfl ?_
  have hf1 := fr_rf μ
  have hRm1 := mR_fr hf1 hRm
  have h01 : ∀ k, μ 0 k = xs k := fun k => (hf1 0 k (by omega)).trans (h0 k)
  have hTm1 : μ 133 2 = nI X.2 := (hf1 133 2 (by omega)).trans hTp.2.2.1
  refine am_e_call rfl rfl (x_gaps (d + 44) n ν hRx.1 hO hRx.2.1 hI ht) rfl ?_
  refine am_e_aload_n rfl rfl ?_
  have hf2 := fr_thr μ
  have hl2 := frL_rf ν
  refine am_e_call rfl rfl (m_gaps (d + 43) n ν hRm1.1 hO hRm1.2.1 hI ht) rfl ?_
  refine am_e_icmp_eq rfl (fun c_1108 => ?_) (fun c_1108 => absurd rfl c_1108)
  exact am_v0 ⟨rfl, rfl, rfl, _, _, rfl, REL_fr (fr_tr hf1 hf2) hl2 hR0⟩

theorem lw_c35 (d n t T : Nat) (l5 l6 : Option Value) {xs : Nat → Int32} {μ : am_M2} {ν : am_N2} (hn : n ≤ 3584) (hi : 7 * t + 7 ≤ n) (hT : T < 2 ^ 19) (hR : REL T xs μ ν) : am_v (d + 46) (Option.some FieldType.boolean) am_gl 1113 [some (.ref 0), some (.ref 2), some (.ref 133), some (.ref 151), some (.int (nI (7 * t))), l5, l6] [] (am_hp n μ ν) (lawQz n t T xs l5 l6) := by
  have hR0 := hR
  obtain ⟨X, V, nm, W, U, K, S, Y, hTp, hLg, ⟨hRx, hRm⟩, hG, hNm, h0⟩ := hR
  obtain ⟨hO, ⟨hI, hWt⟩, hU, hKm, hN, hYo⟩ := id hG
  have ht : W.2.2 < 2 ^ 20 := by omega
  refine am_e_aload_n rfl rfl ?_
  have hf1 := fr_rf μ
  have hRm1 := mR_fr hf1 hRm
  have h01 : ∀ k, μ 0 k = xs k := fun k => (hf1 0 k (by omega)).trans (h0 k)
  have hTm1 : μ 133 2 = nI X.2 := (hf1 133 2 (by omega)).trans hTp.2.2.1
  refine am_e_call rfl rfl (x_widest (d + 44) n ν hRx.1 hO hRx.2.1 hI ht) rfl ?_
  refine am_e_aload_n rfl rfl ?_
  have hf2 := fr_thr μ
  have hl2 := frL_rf ν
  refine am_e_call rfl rfl (m_widest (d + 43) n ν hRm1.1 hO hRm1.2.1 hI ht) rfl ?_
  refine am_e_icmp_eq rfl (fun c_1121 => ?_) (fun c_1121 => absurd rfl c_1121)
  exact am_v0 ⟨rfl, rfl, rfl, _, _, rfl, REL_fr (fr_tr hf1 hf2) hl2 hR0⟩

theorem lw_c36 (d n t T : Nat) (l5 l6 : Option Value) {xs : Nat → Int32} {μ : am_M2} {ν : am_N2} (hn : n ≤ 3584) (hi : 7 * t + 7 ≤ n) (hT : T < 2 ^ 19) (hR : REL T xs μ ν) : am_v (d + 46) (Option.some FieldType.boolean) am_gl 1126 [some (.ref 0), some (.ref 2), some (.ref 133), some (.ref 151), some (.int (nI (7 * t))), l5, l6] [] (am_hp n μ ν) (lawQz n t T xs l5 l6) := by
  have hR0 := hR
  obtain ⟨X, V, nm, W, U, K, S, Y, hTp, hLg, ⟨hRx, hRm⟩, hG, hNm, h0⟩ := hR
  obtain ⟨hO, ⟨hI, hWt⟩, hU, hKm, hN, hYo⟩ := id hG
  have ht : W.2.2 < 2 ^ 20 := by omega
  refine am_e_aload_n rfl rfl ?_
  have hf1 := fr_rf μ
  have hRm1 := mR_fr hf1 hRm
  have h01 : ∀ k, μ 0 k = xs k := fun k => (hf1 0 k (by omega)).trans (h0 k)
  have hTm1 : μ 133 2 = nI X.2 := (hf1 133 2 (by omega)).trans hTp.2.2.1
  refine am_e_call rfl rfl (x_heavy (d + 43) n ν hRx.1 hO hRx.2.1 hI ht) rfl ?_
  refine am_e_aload_n rfl rfl ?_
  have hf2 := fr_thr μ
  have hl2 := frL_rf ν
  refine am_e_call rfl rfl (m_heavy (d + 43) n ν hRm1.1 hO hRm1.2.1 hI ht) rfl ?_
  refine am_e_icmp_eq rfl (fun c_1134 => ?_) (fun c_1134 => absurd rfl c_1134)
  exact am_v0 ⟨rfl, rfl, rfl, _, _, rfl, REL_fr (fr_tr hf1 hf2) hl2 hR0⟩

theorem lw_c37 (d n t T : Nat) (l5 l6 : Option Value) {xs : Nat → Int32} {μ : am_M2} {ν : am_N2} (hn : n ≤ 3584) (hi : 7 * t + 7 ≤ n) (hT : T < 2 ^ 19) (hR : REL T xs μ ν) : am_v (d + 46) (Option.some FieldType.boolean) am_gl 1139 [some (.ref 0), some (.ref 2), some (.ref 133), some (.ref 151), some (.int (nI (7 * t))), l5, l6] [] (am_hp n μ ν) (lawQz n t T xs l5 l6) := by
  have hR0 := hR
  obtain ⟨X, V, nm, W, U, K, S, Y, hTp, hLg, ⟨hRx, hRm⟩, hG, hNm, h0⟩ := hR
  obtain ⟨hO, ⟨hI, hWt⟩, hU, hKm, hN, hYo⟩ := id hG
  have ht : W.2.2 < 2 ^ 20 := by omega
  refine am_e_aload_n rfl rfl ?_
  refine am_e_aload_n rfl rfl ?_
  refine am_e_iload rfl rfl ?_
  refine am_e_iconst (v := nI 1) rfl rfl ?_
  refine am_e_iadd rfl (nI_add _ _) ?_
  refine am_e_iald rfl rfl (am_ix_nI (show 7 * t + 1 < n by omega) (by omega)) (h0 _) ?_
  have hf1 := fr_rf μ
  have hRm1 := mR_fr hf1 hRm
  have h01 : ∀ k, μ 0 k = xs k := fun k => (hf1 0 k (by omega)).trans (h0 k)
  have hTm1 : μ 133 2 = nI X.2 := (hf1 133 2 (by omega)).trans hTp.2.2.1
  refine am_e_call rfl rfl (x_beside (d + 43) (xs (7 * t + 1)) n ν hRx.1 hO hRx.2.1 hI ht) rfl ?_
  refine am_e_aload_n rfl rfl ?_
  refine am_e_aload_n rfl rfl ?_
  refine am_e_iload rfl rfl ?_
  refine am_e_iconst (v := nI 1) rfl rfl ?_
  refine am_e_iadd rfl (nI_add _ _) ?_
  refine am_e_iald rfl rfl (am_ix_nI (show 7 * t + 1 < n by omega) (by omega)) (h01 _) ?_
  have hf2 := fr_thr μ
  have hl2 := frL_rf ν
  refine am_e_call rfl rfl (m_beside (d + 42) (xs (7 * t + 1)) n ν hRm1.1 hO hRm1.2.1 hI ht) rfl ?_
  refine am_e_icmp_eq rfl (fun c_1159 => ?_) (fun c_1159 => absurd rfl c_1159)
  exact am_v0 ⟨rfl, rfl, rfl, _, _, rfl, REL_fr (fr_tr hf1 hf2) hl2 hR0⟩

theorem lw_c38 (d n t T : Nat) (l5 l6 : Option Value) {xs : Nat → Int32} {μ : am_M2} {ν : am_N2} (hn : n ≤ 3584) (hi : 7 * t + 7 ≤ n) (hT : T < 2 ^ 19) (hR : REL T xs μ ν) : am_v (d + 46) (Option.some FieldType.boolean) am_gl 1164 [some (.ref 0), some (.ref 2), some (.ref 133), some (.ref 151), some (.int (nI (7 * t))), l5, l6] [] (am_hp n μ ν) (lawQz n t T xs l5 l6) := by
  have hR0 := hR
  obtain ⟨X, V, nm, W, U, K, S, Y, hTp, hLg, ⟨hRx, hRm⟩, hG, hNm, h0⟩ := hR
  obtain ⟨hO, ⟨hI, hWt⟩, hU, hKm, hN, hYo⟩ := id hG
  have ht : W.2.2 < 2 ^ 20 := by omega
  refine am_e_aload_n rfl rfl ?_
  have hf1 := fr_rf μ
  have hRm1 := mR_fr hf1 hRm
  have h01 : ∀ k, μ 0 k = xs k := fun k => (hf1 0 k (by omega)).trans (h0 k)
  have hTm1 : μ 133 2 = nI X.2 := (hf1 133 2 (by omega)).trans hTp.2.2.1
  refine am_e_call rfl rfl (x_like (d + 43) n ν hRx.1 hO hRx.2.1 hI ht) rfl ?_
  refine am_e_aload_n rfl rfl ?_
  have hf2 := fr_thr μ
  have hl2 := frL_rf ν
  refine am_e_call rfl rfl (m_like (d + 43) n ν hRm1.1 hO hRm1.2.1 hI ht) rfl ?_
  refine am_e_icmp_eq rfl (fun c_1172 => ?_) (fun c_1172 => absurd rfl c_1172)
  exact am_v0 ⟨rfl, rfl, rfl, _, _, rfl, REL_fr (fr_tr hf1 hf2) hl2 hR0⟩

theorem lw_c39 (d n t T : Nat) (l5 l6 : Option Value) {xs : Nat → Int32} {μ : am_M2} {ν : am_N2} (hn : n ≤ 3584) (hi : 7 * t + 7 ≤ n) (hT : T < 2 ^ 19) (hR : REL T xs μ ν) : am_v (d + 46) (Option.some FieldType.boolean) am_gl 1177 [some (.ref 0), some (.ref 2), some (.ref 133), some (.ref 151), some (.int (nI (7 * t))), l5, l6] [] (am_hp n μ ν) (lawQz n t T xs l5 l6) := by
  have hR0 := hR
  obtain ⟨X, V, nm, W, U, K, S, Y, hTp, hLg, ⟨hRx, hRm⟩, hG, hNm, h0⟩ := hR
  obtain ⟨hO, ⟨hI, hWt⟩, hU, hKm, hN, hYo⟩ := id hG
  have ht : W.2.2 < 2 ^ 20 := by omega
  refine am_e_aload_n rfl rfl ?_
  obtain ⟨μ1, hx, hf1⟩ := x_swaps (d + 41) n ν hRx.1 hO hRx.2.1 hI ht
  have hRm1 := mR_fr hf1 hRm
  have h01 : ∀ k, μ1 0 k = xs k := fun k => (hf1 0 k (by omega)).trans (h0 k)
  have hTm1 : μ1 133 2 = nI X.2 := (hf1 133 2 (by omega)).trans hTp.2.2.1
  refine am_e_call rfl rfl (hx) rfl ?_
  refine am_e_aload_n rfl rfl ?_
  obtain ⟨μ2, hm, hf2⟩ := m_swaps (d + 42) n ν hRm1.1 hO hRm1.2.1 hI ht
  have hl2 := frL_rf ν
  refine am_e_call rfl rfl (hm) rfl ?_
  refine am_e_icmp_eq rfl (fun c_1185 => ?_) (fun c_1185 => absurd rfl c_1185)
  exact am_v0 ⟨rfl, rfl, rfl, _, _, rfl, REL_fr (fr_tr hf1 hf2) hl2 hR0⟩

theorem lw_c41 (d n t T : Nat) (l5 l6 : Option Value) {xs : Nat → Int32} {μ : am_M2} {ν : am_N2} (hn : n ≤ 3584) (hi : 7 * t + 7 ≤ n) (hT : T < 2 ^ 19) (hR : REL T xs μ ν) : am_v (d + 46) (Option.some FieldType.boolean) am_gl 1255 [some (.ref 0), some (.ref 2), some (.ref 133), some (.ref 151), some (.int (nI (7 * t))), l5, l6] [] (am_hp n μ ν) (lawQz n t T xs l5 l6) := by
  have hR0 := hR
  obtain ⟨X, V, nm, W, U, K, S, Y, hTp, hLg, ⟨hRx, hRm⟩, hG, hNm, h0⟩ := hR
  obtain ⟨hO, ⟨hI, hWt⟩, hU, hKm, hN, hYo⟩ := id hG
  have ht : W.2.2 < 2 ^ 20 := by omega
  refine am_e_aload_n rfl rfl ?_
  obtain ⟨μ1, hx, hf1⟩ := x_fit (d + 39) n ν hRx.1 hO hRx.2.1 hI ht hRx.2.2.2.2.1 hN
  have hRm1 := mR_fr hf1 hRm
  have h01 : ∀ k, μ1 0 k = xs k := fun k => (hf1 0 k (by omega)).trans (h0 k)
  have hTm1 : μ1 133 2 = nI X.2 := (hf1 133 2 (by omega)).trans hTp.2.2.1
  refine am_e_call rfl rfl (hx) rfl ?_
  refine am_e_aload_n rfl rfl ?_
  obtain ⟨μ2, hm, hf2⟩ := m_fit (d + 30) n ν hRm1 hO hI ht hN
  have hl2 := frL_rf ν
  refine am_e_call rfl rfl (hm) rfl ?_
  refine am_e_icmp_eq rfl (fun c_1263 => ?_) (fun c_1263 => absurd rfl c_1263)
  exact am_v0 ⟨rfl, rfl, rfl, _, _, rfl, REL_fr (fr_tr hf1 hf2) hl2 hR0⟩

theorem lw_c42 (d n t T : Nat) (l5 l6 : Option Value) {xs : Nat → Int32} {μ : am_M2} {ν : am_N2} (hn : n ≤ 3584) (hi : 7 * t + 7 ≤ n) (hT : T < 2 ^ 19) (hR : REL T xs μ ν) : am_v (d + 46) (Option.some FieldType.boolean) am_gl 1268 [some (.ref 0), some (.ref 2), some (.ref 133), some (.ref 151), some (.int (nI (7 * t))), l5, l6] [] (am_hp n μ ν) (lawQz n t T xs l5 l6) := by
  have hR0 := hR
  obtain ⟨X, V, nm, W, U, K, S, Y, hTp, hLg, ⟨hRx, hRm⟩, hG, hNm, h0⟩ := hR
  obtain ⟨hO, ⟨hI, hWt⟩, hU, hKm, hN, hYo⟩ := id hG
  have ht : W.2.2 < 2 ^ 20 := by omega
  refine am_e_aload_n rfl rfl ?_
  obtain ⟨μ1, hx, hf1⟩ := x_look (d + 39) n ν hRx.1 hO hRx.2.1 hI ht hRx.2.2.2.2.1 hN
  have hRm1 := mR_fr hf1 hRm
  have h01 : ∀ k, μ1 0 k = xs k := fun k => (hf1 0 k (by omega)).trans (h0 k)
  have hTm1 : μ1 133 2 = nI X.2 := (hf1 133 2 (by omega)).trans hTp.2.2.1
  refine am_e_call rfl rfl (hx) rfl ?_
  refine am_e_aload_n rfl rfl ?_
  obtain ⟨μ2, hm, hf2⟩ := m_look (d + 30) n ν hRm1 hO hI ht hN
  have hl2 := frL_rf ν
  refine am_e_call rfl rfl (hm) rfl ?_
  refine am_e_icmp_eq rfl (fun c_1276 => ?_) (fun c_1276 => absurd rfl c_1276)
  exact am_v0 ⟨rfl, rfl, rfl, _, _, rfl, REL_fr (fr_tr hf1 hf2) hl2 hR0⟩

theorem lw_c43 (d n t T : Nat) (l5 l6 : Option Value) {xs : Nat → Int32} {μ : am_M2} {ν : am_N2} (hn : n ≤ 3584) (hi : 7 * t + 7 ≤ n) (hT : T < 2 ^ 19) (hR : REL T xs μ ν) : am_v (d + 46) (Option.some FieldType.boolean) am_gl 1281 [some (.ref 0), some (.ref 2), some (.ref 133), some (.ref 151), some (.int (nI (7 * t))), l5, l6] [] (am_hp n μ ν) (lawQz n t T xs l5 l6) := by
  have hR0 := hR
  obtain ⟨X, V, nm, W, U, K, S, Y, hTp, hLg, ⟨hRx, hRm⟩, hG, hNm, h0⟩ := hR
  obtain ⟨hO, ⟨hI, hWt⟩, hU, hKm, hN, hYo⟩ := id hG
  have ht : W.2.2 < 2 ^ 20 := by omega
  refine am_e_aload_n rfl rfl ?_
  refine am_e_aload_n rfl rfl ?_
  refine am_e_iload rfl rfl ?_
  refine am_e_iconst (v := nI 1) rfl rfl ?_
  refine am_e_iadd rfl (nI_add _ _) ?_
  refine am_e_iald rfl rfl (am_ix_nI (show 7 * t + 1 < n by omega) (by omega)) (h0 _) ?_
  refine am_e_aload_n rfl rfl ?_
  refine am_e_iload rfl rfl ?_
  refine am_e_iconst (v := nI 2) rfl rfl ?_
  refine am_e_iadd rfl (nI_add _ _) ?_
  refine am_e_iald rfl rfl (am_ix_nI (show 7 * t + 2 < n by omega) (by omega)) (h0 _) ?_
  refine am_e_aload_n rfl rfl ?_
  refine am_e_iload rfl rfl ?_
  refine am_e_iconst (v := nI 3) rfl rfl ?_
  refine am_e_iadd rfl (nI_add _ _) ?_
  refine am_e_iald rfl rfl (am_ix_nI (show 7 * t + 3 < n by omega) (by omega)) (h0 _) ?_
  obtain ⟨μ1, hx, hf1⟩ := x_chance (d + 39) (xs (7 * t + 1)) (xs (7 * t + 2)) (xs (7 * t + 3)) n ν hRx.1 hO hRx.2.1 hI ht
  have hRm1 := mR_fr hf1 hRm
  have h01 : ∀ k, μ1 0 k = xs k := fun k => (hf1 0 k (by omega)).trans (h0 k)
  have hTm1 : μ1 133 2 = nI X.2 := (hf1 133 2 (by omega)).trans hTp.2.2.1
  refine am_e_call rfl rfl (hx) rfl ?_
  refine am_e_aload_n rfl rfl ?_
  refine am_e_aload_n rfl rfl ?_
  refine am_e_iload rfl rfl ?_
  refine am_e_iconst (v := nI 1) rfl rfl ?_
  refine am_e_iadd rfl (nI_add _ _) ?_
  refine am_e_iald rfl rfl (am_ix_nI (show 7 * t + 1 < n by omega) (by omega)) (h01 _) ?_
  refine am_e_aload_n rfl rfl ?_
  refine am_e_iload rfl rfl ?_
  refine am_e_iconst (v := nI 2) rfl rfl ?_
  refine am_e_iadd rfl (nI_add _ _) ?_
  refine am_e_iald rfl rfl (am_ix_nI (show 7 * t + 2 < n by omega) (by omega)) (h01 _) ?_
  refine am_e_aload_n rfl rfl ?_
  refine am_e_iload rfl rfl ?_
  refine am_e_iconst (v := nI 3) rfl rfl ?_
  refine am_e_iadd rfl (nI_add _ _) ?_
  refine am_e_iald rfl rfl (am_ix_nI (show 7 * t + 3 < n by omega) (by omega)) (h01 _) ?_
  obtain ⟨μ2, hm, hf2⟩ := m_chance (d + 40) (xs (7 * t + 1)) (xs (7 * t + 2)) (xs (7 * t + 3)) n ν hRm1.1 hO hRm1.2.1 hI ht
  have hl2 := frL_rf ν
  refine am_e_call rfl rfl (hm) rfl ?_
  refine am_e_icmp_eq rfl (fun c_1325 => ?_) (fun c_1325 => absurd rfl c_1325)
  exact am_v0 ⟨rfl, rfl, rfl, _, _, rfl, REL_fr (fr_tr hf1 hf2) hl2 hR0⟩

theorem lw_c45 (d n t T : Nat) (l5 l6 : Option Value) {xs : Nat → Int32} {μ : am_M2} {ν : am_N2} (hn : n ≤ 3584) (hi : 7 * t + 7 ≤ n) (hT : T < 2 ^ 19) (hR : REL T xs μ ν) : am_v (d + 46) (Option.some FieldType.boolean) am_gl 1422 [some (.ref 0), some (.ref 2), some (.ref 133), some (.ref 151), some (.int (nI (7 * t))), l5, l6] [] (am_hp n μ ν) (lawQz n t T xs l5 l6) := by
  have hR0 := hR
  obtain ⟨X, V, nm, W, U, K, S, Y, hTp, hLg, ⟨hRx, hRm⟩, hG, hNm, h0⟩ := hR
  obtain ⟨hO, ⟨hI, hWt⟩, hU, hKm, hN, hYo⟩ := id hG
  have ht : W.2.2 < 2 ^ 20 := by omega
  refine am_e_aload_n rfl rfl ?_
  refine am_e_aload_n rfl rfl ?_
  refine am_e_iload rfl rfl ?_
  refine am_e_iconst (v := nI 1) rfl rfl ?_
  refine am_e_iadd rfl (nI_add _ _) ?_
  refine am_e_iald rfl rfl (am_ix_nI (show 7 * t + 1 < n by omega) (by omega)) (h0 _) ?_
  refine am_e_aload_n rfl rfl ?_
  refine am_e_iload rfl rfl ?_
  refine am_e_iconst (v := nI 2) rfl rfl ?_
  refine am_e_iadd rfl (nI_add _ _) ?_
  refine am_e_iald rfl rfl (am_ix_nI (show 7 * t + 2 < n by omega) (by omega)) (h0 _) ?_
  refine am_e_aload_n rfl rfl ?_
  refine am_e_iload rfl rfl ?_
  refine am_e_iconst (v := nI 3) rfl rfl ?_
  refine am_e_iadd rfl (nI_add _ _) ?_
  refine am_e_iald rfl rfl (am_ix_nI (show 7 * t + 3 < n by omega) (by omega)) (h0 _) ?_
  obtain ⟨μ1, hx, hf1⟩ := x_centuries (d + 38) (xs (7 * t + 1)) (xs (7 * t + 2)) (xs (7 * t + 3)) n ν hRx.1 hO hRx.2.1 hI ht
  have hRm1 := mR_fr hf1 hRm
  have h01 : ∀ k, μ1 0 k = xs k := fun k => (hf1 0 k (by omega)).trans (h0 k)
  have hTm1 : μ1 133 2 = nI X.2 := (hf1 133 2 (by omega)).trans hTp.2.2.1
  refine am_e_call rfl rfl (hx) rfl ?_
  refine am_e_aload_n rfl rfl ?_
  refine am_e_aload_n rfl rfl ?_
  refine am_e_iload rfl rfl ?_
  refine am_e_iconst (v := nI 1) rfl rfl ?_
  refine am_e_iadd rfl (nI_add _ _) ?_
  refine am_e_iald rfl rfl (am_ix_nI (show 7 * t + 1 < n by omega) (by omega)) (h01 _) ?_
  refine am_e_aload_n rfl rfl ?_
  refine am_e_iload rfl rfl ?_
  refine am_e_iconst (v := nI 2) rfl rfl ?_
  refine am_e_iadd rfl (nI_add _ _) ?_
  refine am_e_iald rfl rfl (am_ix_nI (show 7 * t + 2 < n by omega) (by omega)) (h01 _) ?_
  refine am_e_aload_n rfl rfl ?_
  refine am_e_iload rfl rfl ?_
  refine am_e_iconst (v := nI 3) rfl rfl ?_
  refine am_e_iadd rfl (nI_add _ _) ?_
  refine am_e_iald rfl rfl (am_ix_nI (show 7 * t + 3 < n by omega) (by omega)) (h01 _) ?_
  obtain ⟨μ2, ν2, hm, hf2, hl2⟩ := m_centuries (d + 39) (xs (7 * t + 1)) (xs (7 * t + 2)) (xs (7 * t + 3)) n ν hRm1.1 hO hRm1.2.1 hI ht
  refine am_e_call rfl rfl (hm) rfl ?_
  refine am_e_icmp_eq rfl (fun c_1466 => ?_) (fun c_1466 => absurd rfl c_1466)
  exact am_v0 ⟨rfl, rfl, rfl, _, _, rfl, REL_fr (fr_tr hf1 hf2) hl2 hR0⟩

theorem lw_c47 (d n t T : Nat) (l5 l6 : Option Value) {xs : Nat → Int32} {μ : am_M2} {ν : am_N2} (hn : n ≤ 3584) (hi : 7 * t + 7 ≤ n) (hT : T < 2 ^ 19) (hR : REL T xs μ ν) : am_v (d + 46) (Option.some FieldType.boolean) am_gl 1524 [some (.ref 0), some (.ref 2), some (.ref 133), some (.ref 151), some (.int (nI (7 * t))), l5, l6] [] (am_hp n μ ν) (lawQz n t T xs l5 l6) := by
  have hR0 := hR
  obtain ⟨X, V, nm, W, U, K, S, Y, hTp, hLg, ⟨hRx, hRm⟩, hG, hNm, h0⟩ := hR
  obtain ⟨hO, ⟨hI, hWt⟩, hU, hKm, hN, hYo⟩ := id hG
  have ht : W.2.2 < 2 ^ 20 := by omega
  refine am_e_aload_n rfl rfl ?_
  refine am_e_aload_n rfl rfl ?_
  refine am_e_iload rfl rfl ?_
  refine am_e_iconst (v := nI 1) rfl rfl ?_
  refine am_e_iadd rfl (nI_add _ _) ?_
  refine am_e_iald rfl rfl (am_ix_nI (show 7 * t + 1 < n by omega) (by omega)) (h0 _) ?_
  have hf1 := fr_rf μ
  have hRm1 := mR_fr hf1 hRm
  have h01 : ∀ k, μ 0 k = xs k := fun k => (hf1 0 k (by omega)).trans (h0 k)
  have hTm1 : μ 133 2 = nI X.2 := (hf1 133 2 (by omega)).trans hTp.2.2.1
  refine am_e_call rfl rfl (x_count (d + 44) (xs (7 * t + 1)) n ν hRx hO hI ht X.2 hTp.2.1.1) rfl ?_
  refine am_e_aload_n rfl rfl ?_
  refine am_e_aload_n rfl rfl ?_
  refine am_e_iload rfl rfl ?_
  refine am_e_iconst (v := nI 1) rfl rfl ?_
  refine am_e_iadd rfl (nI_add _ _) ?_
  refine am_e_iald rfl rfl (am_ix_nI (show 7 * t + 1 < n by omega) (by omega)) (h01 _) ?_
  have hf2 := fr_thr μ
  have hl2 := frL_rf ν
  refine am_e_call rfl rfl (m_count (d + 42) (xs (7 * t + 1)) n ν hRm1 hO hI ht X.2 hTm1) rfl ?_
  refine am_e_icmp_eq rfl (fun c_1544 => ?_) (fun c_1544 => absurd rfl c_1544)
  exact am_v0 ⟨rfl, rfl, rfl, _, _, rfl, REL_fr (fr_tr hf1 hf2) hl2 hR0⟩
