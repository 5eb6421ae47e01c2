theorem lw_c5 (d n t T : Nat) (l5 l6 : Option Value) {xs : Nat → Int32} {μ : am_M2} {ν : am_N2} (hn : n ≤ 3584) (hi : 7 * t + 7 ≤ n) (hT : T < 2 ^ 19) (hR : REL T xs μ ν) : am_v (d + 46) (Option.some FieldType.boolean) am_gl 483 [some (.ref 0), some (.ref 2), some (.ref 133), some (.ref 151), some (.int (nI (7 * t))), l5, l6] [] (am_hp n μ ν) (lawQz n t T xs l5 l6) := by
  have hR0 := hR
  obtain ⟨X, V, nm, W, U, K, S, Y, hTp, hLg, ⟨hRx, hRm⟩, hG, hNm, h0⟩ := hR
  obtain ⟨hO, ⟨hI, hWt⟩, hU, hKm, hN, hYo⟩ := id hG
  have ht : W.2.2 < 2 ^ 20 := by omega
  refine am_e_aload_n rfl rfl ?_
  refine am_e_aload_n rfl rfl ?_
  refine am_e_iload rfl rfl ?_
  refine am_e_iconst (v := nI 1) rfl rfl ?_
  refine am_e_iadd rfl (nI_add _ _) ?_
  refine am_e_iald rfl rfl (am_ix_nI (show 7 * t + 1 < n by omega) (by omega)) (h0 _) ?_
  obtain ⟨μ1, hx, hRx1, hfx⟩ := x_tell (d + 38) (xs (7 * t + 1)) n ν hRx hO hI ht
  have hRm1 := mR_X hfx hRm
  have h01 : ∀ k, μ1 0 k = xs k := fun k => by rw [hfx 0 (by omega)]; exact h0 k
  refine am_e_call rfl rfl (hx) rfl ?_
  refine am_e_aload_n rfl rfl ?_
  refine am_e_aload_n rfl rfl ?_
  refine am_e_iload rfl rfl ?_
  refine am_e_iconst (v := nI 1) rfl rfl ?_
  refine am_e_iadd rfl (nI_add _ _) ?_
  refine am_e_iald rfl rfl (am_ix_nI (show 7 * t + 1 < n by omega) (by omega)) (h01 _) ?_
  obtain ⟨μ2, hm, hRm2, hfm⟩ := m_tell (d + 42) (xs (7 * t + 1)) n ν hRm1 hO hI ht
  obtain ⟨μ3, hm3, -, hft⟩ := n_tell (d + 42) (xs (7 * t + 1)) n ν hRm1 hO hI ht
  obtain ⟨e3, -⟩ := hpE hm hm3
  subst e3
  refine am_e_call rfl rfl (hm) rfl ?_
  refine am_e_icmp_eq rfl (fun c_503 => ?_) (fun c_503 => absurd rfl c_503)
  exact am_v0 ⟨rfl, rfl, rfl, _, _, rfl, REL_act hTp hLg hRx1 hfx hRm2 hfm hft (iG_deed (e := 1) (by decide) hG) hNm h0⟩

theorem lw_c6 (d n t T : Nat) (l5 l6 : Option Value) {xs : Nat → Int32} {μ : am_M2} {ν : am_N2} (hn : n ≤ 3584) (hi : 7 * t + 7 ≤ n) (hT : T < 2 ^ 19) (hR : REL T xs μ ν) : am_v (d + 46) (Option.some FieldType.boolean) am_gl 508 [some (.ref 0), some (.ref 2), some (.ref 133), some (.ref 151), some (.int (nI (7 * t))), l5, l6] [] (am_hp n μ ν) (lawQz n t T xs l5 l6) := by
  have hR0 := hR
  obtain ⟨X, V, nm, W, U, K, S, Y, hTp, hLg, ⟨hRx, hRm⟩, hG, hNm, h0⟩ := hR
  obtain ⟨hO, ⟨hI, hWt⟩, hU, hKm, hN, hYo⟩ := id hG
  have ht : W.2.2 < 2 ^ 20 := by omega
  refine am_e_aload_n rfl rfl ?_
  refine am_e_aload_n rfl rfl ?_
  refine am_e_iload rfl rfl ?_
  refine am_e_iconst (v := nI 1) rfl rfl ?_
  refine am_e_iadd rfl (nI_add _ _) ?_
  refine am_e_iald rfl rfl (am_ix_nI (show 7 * t + 1 < n by omega) (by omega)) (h0 _) ?_
  refine am_e_aload_n rfl rfl ?_
  refine am_e_iload rfl rfl ?_
  refine am_e_iconst (v := nI 2) rfl rfl ?_
  refine am_e_iadd rfl (nI_add _ _) ?_
  refine am_e_iald rfl rfl (am_ix_nI (show 7 * t + 2 < n by omega) (by omega)) (h0 _) ?_
  obtain ⟨μ1, hx, hRx1, hfx⟩ := x_sets (d + 38) (xs (7 * t + 1)) (xs (7 * t + 2)) n ν hRx hO hI ht
  have hRm1 := mR_X hfx hRm
  have h01 : ∀ k, μ1 0 k = xs k := fun k => by rw [hfx 0 (by omega)]; exact h0 k
  refine am_e_call rfl rfl (hx) rfl ?_
  refine am_e_aload_n rfl rfl ?_
  refine am_e_aload_n rfl rfl ?_
  refine am_e_iload rfl rfl ?_
  refine am_e_iconst (v := nI 1) rfl rfl ?_
  refine am_e_iadd rfl (nI_add _ _) ?_
  refine am_e_iald rfl rfl (am_ix_nI (show 7 * t + 1 < n by omega) (by omega)) (h01 _) ?_
  refine am_e_aload_n rfl rfl ?_
  refine am_e_iload rfl rfl ?_
  refine am_e_iconst (v := nI 2) rfl rfl ?_
  refine am_e_iadd rfl (nI_add _ _) ?_
  refine am_e_iald rfl rfl (am_ix_nI (show 7 * t + 2 < n by omega) (by omega)) (h01 _) ?_
  obtain ⟨μ2, hm, hRm2, hfm⟩ := m_sets (d + 41) (xs (7 * t + 1)) (xs (7 * t + 2)) n ν hRm1 hO hI ht
  obtain ⟨μ3, hm3, -, hft⟩ := n_sets (d + 41) (xs (7 * t + 1)) (xs (7 * t + 2)) n ν hRm1 hO hI ht
  obtain ⟨e3, -⟩ := hpE hm hm3
  subst e3
  refine am_e_call rfl rfl (hm) rfl ?_
  refine am_e_icmp_eq rfl (fun c_540 => ?_) (fun c_540 => absurd rfl c_540)
  exact am_v0 ⟨rfl, rfl, rfl, _, _, rfl, REL_act hTp hLg hRx1 hfx hRm2 hfm hft (iG_deed (e := 2) (by decide) hG) hNm h0⟩

theorem lw_c7 (d n t T : Nat) (l5 l6 : Option Value) {xs : Nat → Int32} {μ : am_M2} {ν : am_N2} (hn : n ≤ 3584) (hi : 7 * t + 7 ≤ n) (hT : T < 2 ^ 19) (hR : REL T xs μ ν) : am_v (d + 46) (Option.some FieldType.boolean) am_gl 545 [some (.ref 0), some (.ref 2), some (.ref 133), some (.ref 151), some (.int (nI (7 * t))), l5, l6] [] (am_hp n μ ν) (lawQz n t T xs l5 l6) := by
  have hR0 := hR
  obtain ⟨X, V, nm, W, U, K, S, Y, hTp, hLg, ⟨hRx, hRm⟩, hG, hNm, h0⟩ := hR
  obtain ⟨hO, ⟨hI, hWt⟩, hU, hKm, hN, hYo⟩ := id hG
  have ht : W.2.2 < 2 ^ 20 := by omega
  refine am_e_aload_n rfl rfl ?_
  refine am_e_aload_n rfl rfl ?_
  refine am_e_iload rfl rfl ?_
  refine am_e_iconst (v := nI 1) rfl rfl ?_
  refine am_e_iadd rfl (nI_add _ _) ?_
  refine am_e_iald rfl rfl (am_ix_nI (show 7 * t + 1 < n by omega) (by omega)) (h0 _) ?_
  obtain ⟨μ1, hx, hRx1, hfx⟩ := x_take (d + 38) (xs (7 * t + 1)) n ν hRx hO hI ht
  have hRm1 := mR_X hfx hRm
  have h01 : ∀ k, μ1 0 k = xs k := fun k => by rw [hfx 0 (by omega)]; exact h0 k
  refine am_e_call rfl rfl (hx) rfl ?_
  refine am_e_aload_n rfl rfl ?_
  refine am_e_aload_n rfl rfl ?_
  refine am_e_iload rfl rfl ?_
  refine am_e_iconst (v := nI 1) rfl rfl ?_
  refine am_e_iadd rfl (nI_add _ _) ?_
  refine am_e_iald rfl rfl (am_ix_nI (show 7 * t + 1 < n by omega) (by omega)) (h01 _) ?_
  obtain ⟨μ2, hm, hRm2, hfm⟩ := m_take (d + 42) (xs (7 * t + 1)) n ν hRm1 hO hI ht
  obtain ⟨μ3, hm3, -, hft⟩ := n_take (d + 42) (xs (7 * t + 1)) n ν hRm1 hO hI ht
  obtain ⟨e3, -⟩ := hpE hm hm3
  subst e3
  refine am_e_call rfl rfl (hm) rfl ?_
  refine am_e_icmp_eq rfl (fun c_565 => ?_) (fun c_565 => absurd rfl c_565)
  exact am_v0 ⟨rfl, rfl, rfl, _, _, rfl, REL_act hTp hLg hRx1 hfx hRm2 hfm hft (iG_deed (e := 3) (by decide) hG) hNm h0⟩

theorem lw_c8 (d n t T : Nat) (l5 l6 : Option Value) {xs : Nat → Int32} {μ : am_M2} {ν : am_N2} (hn : n ≤ 3584) (hi : 7 * t + 7 ≤ n) (hT : T < 2 ^ 19) (hR : REL T xs μ ν) : am_v (d + 46) (Option.some FieldType.boolean) am_gl 570 [some (.ref 0), some (.ref 2), some (.ref 133), some (.ref 151), some (.int (nI (7 * t))), l5, l6] [] (am_hp n μ ν) (lawQz n t T xs l5 l6) := by
  have hR0 := hR
  obtain ⟨X, V, nm, W, U, K, S, Y, hTp, hLg, ⟨hRx, hRm⟩, hG, hNm, h0⟩ := hR
  obtain ⟨hO, ⟨hI, hWt⟩, hU, hKm, hN, hYo⟩ := id hG
  have ht : W.2.2 < 2 ^ 20 := by omega
  refine am_e_aload_n rfl rfl ?_
  obtain ⟨μ1, hx, hRx1, hfx⟩ := x_week (d + 40) n ν hRx hO hI ht
  have hRm1 := mR_X hfx hRm
  have h01 : ∀ k, μ1 0 k = xs k := fun k => by rw [hfx 0 (by omega)]; exact h0 k
  refine am_e_call rfl rfl (hx) rfl ?_
  refine am_e_aload_n rfl rfl ?_
  obtain ⟨μ2, hm, hRm2, hfm⟩ := m_week (d + 39) n ν hRm1 hO hI ht
  obtain ⟨μ3, hm3, -, hft⟩ := n_week (d + 39) n ν hRm1 hO hI ht
  obtain ⟨e3, -⟩ := hpE hm hm3
  subst e3
  refine am_e_call rfl rfl (hm) rfl ?_
  refine am_e_icmp_eq rfl (fun c_578 => ?_) (fun c_578 => absurd rfl c_578)
  exact am_v0 ⟨rfl, rfl, rfl, _, _, rfl, REL_act hTp hLg hRx1 hfx hRm2 hfm hft (iG_week hG) hNm h0⟩

theorem lw_c9 (d n t T : Nat) (l5 l6 : Option Value) {xs : Nat → Int32} {μ : am_M2} {ν : am_N2} (hn : n ≤ 3584) (hi : 7 * t + 7 ≤ n) (hT : T < 2 ^ 19) (hR : REL T xs μ ν) : am_v (d + 46) (Option.some FieldType.boolean) am_gl 583 [some (.ref 0), some (.ref 2), some (.ref 133), some (.ref 151), some (.int (nI (7 * t))), l5, l6] [] (am_hp n μ ν) (lawQz n t T xs l5 l6) := by
  have hR0 := hR
  obtain ⟨X, V, nm, W, U, K, S, Y, hTp, hLg, ⟨hRx, hRm⟩, hG, hNm, h0⟩ := hR
  obtain ⟨hO, ⟨hI, hWt⟩, hU, hKm, hN, hYo⟩ := id hG
  have ht : W.2.2 < 2 ^ 20 := by omega
  refine am_e_aload_n rfl rfl ?_
  obtain ⟨μ1, hx, hRx1, hfx⟩ := x_undo (d + 43) n ν hRx hO hI ht
  have hRm1 := mR_X hfx hRm
  have h01 : ∀ k, μ1 0 k = xs k := fun k => by rw [hfx 0 (by omega)]; exact h0 k
  refine am_e_call rfl rfl (hx) rfl ?_
  refine am_e_aload_n rfl rfl ?_
  obtain ⟨μ2, hm, hRm2, hfm⟩ := m_undo (d + 44) n ν hRm1 hO hI ht
  obtain ⟨μ3, hm3, -, hft⟩ := n_undo (d + 44) n ν hRm1 hO hI ht
  obtain ⟨e3, -⟩ := hpE hm hm3
  subst e3
  refine am_e_call rfl rfl (hm) rfl ?_
  refine am_e_icmp_eq rfl (fun c_591 => ?_) (fun c_591 => absurd rfl c_591)
  exact am_v0 ⟨rfl, rfl, rfl, _, _, rfl, REL_act hTp hLg hRx1 hfx hRm2 hfm hft (iG_undo hG) hNm h0⟩

theorem lw_c40t (d n t T : Nat) (l5 l6 : Option Value) {xs : Nat → Int32} {μ : am_M2} {ν : am_N2} (hn : n ≤ 3584) (hi : 7 * t + 7 ≤ n) (hT : T < 2 ^ 19) (hR : REL T xs μ ν) (hb : ¬ xs (7 * t + 3) = 0) : am_v (d + 46) (Option.some FieldType.boolean) am_gl 1190 [some (.ref 0), some (.ref 2), some (.ref 133), some (.ref 151), some (.int (nI (7 * t))), l5, l6] [] (am_hp n μ ν) (lawQz n t T xs l5 l6) := by
  have hR0 := hR
  obtain ⟨X, V, nm, W, U, K, S, Y, hTp, hLg, ⟨hRx, hRm⟩, hG, hNm, h0⟩ := hR
  obtain ⟨hO, ⟨hI, hWt⟩, hU, hKm, hN, hYo⟩ := id hG
  have ht : W.2.2 < 2 ^ 20 := by omega
  refine am_e_aload_n rfl rfl ?_
  refine am_e_aload_n rfl rfl ?_
  refine am_e_iload rfl rfl ?_
  refine am_e_iconst (v := nI 1) rfl rfl ?_
  refine am_e_iadd rfl (nI_add _ _) ?_
  refine am_e_iald rfl rfl (am_ix_nI (show 7 * t + 1 < n by omega) (by omega)) (h0 _) ?_
  refine am_e_aload_n rfl rfl ?_
  refine am_e_iload rfl rfl ?_
  refine am_e_iconst (v := nI 2) rfl rfl ?_
  refine am_e_iadd rfl (nI_add _ _) ?_
  refine am_e_iald rfl rfl (am_ix_nI (show 7 * t + 2 < n by omega) (by omega)) (h0 _) ?_
  refine am_e_aload_n rfl rfl ?_
  refine am_e_iload rfl rfl ?_
  refine am_e_iconst (v := nI 3) rfl rfl ?_
  refine am_e_iadd rfl (nI_add _ _) ?_
  refine am_e_iald rfl rfl (am_ix_nI (show 7 * t + 3 < n by omega) (by omega)) (h0 _) ?_
  refine am_e_if_eq rfl (fun c_1209 => absurd c_1209 hb) (fun c_1209 => ?_)
  refine am_e_iconst (v := nI 1) rfl rfl ?_
  refine am_e_goto rfl ?_
  obtain ⟨μ1, hx, hRx1, hfx⟩ := x_see (d + 43) (xs (7 * t + 1)) (xs (7 * t + 2)) true n ν hRx hO hI ht
  have hRm1 := mR_X hfx hRm
  have h01 : ∀ k, μ1 0 k = xs k := fun k => by rw [hfx 0 (by omega)]; exact h0 k
  refine am_e_call rfl rfl (hx) rfl ?_
  refine am_e_aload_n rfl rfl ?_
  refine am_e_aload_n rfl rfl ?_
  refine am_e_iload rfl rfl ?_
  refine am_e_iconst (v := nI 1) rfl rfl ?_
  refine am_e_iadd rfl (nI_add _ _) ?_
  refine am_e_iald rfl rfl (am_ix_nI (show 7 * t + 1 < n by omega) (by omega)) (h01 _) ?_
  refine am_e_aload_n rfl rfl ?_
  refine am_e_iload rfl rfl ?_
  refine am_e_iconst (v := nI 2) rfl rfl ?_
  refine am_e_iadd rfl (nI_add _ _) ?_
  refine am_e_iald rfl rfl (am_ix_nI (show 7 * t + 2 < n by omega) (by omega)) (h01 _) ?_
  refine am_e_aload_n rfl rfl ?_
  refine am_e_iload rfl rfl ?_
  refine am_e_iconst (v := nI 3) rfl rfl ?_
  refine am_e_iadd rfl (nI_add _ _) ?_
  refine am_e_iald rfl rfl (am_ix_nI (show 7 * t + 3 < n by omega) (by omega)) (h01 _) ?_
  refine am_e_if_eq rfl (fun c_1239 => absurd c_1239 hb) (fun c_1239 => ?_)
  refine am_e_iconst (v := nI 1) rfl rfl ?_
  refine am_e_goto rfl ?_
  obtain ⟨μ2, hm, hRm2, hfm⟩ := m_see (d + 43) (xs (7 * t + 1)) (xs (7 * t + 2)) true n ν hRm1 hO hI ht
  obtain ⟨μ3, hm3, -, hft⟩ := n_see (d + 43) (xs (7 * t + 1)) (xs (7 * t + 2)) true n ν hRm1 hO hI ht
  obtain ⟨e3, -⟩ := hpE hm hm3
  subst e3
  refine am_e_call rfl rfl (hm) rfl ?_
  refine am_e_icmp_eq rfl (fun c_1250 => ?_) (fun c_1250 => absurd rfl c_1250)
  exact am_v0 ⟨rfl, rfl, rfl, _, _, rfl, REL_act hTp hLg hRx1 hfx hRm2 hfm hft (iG_see hG) hNm h0⟩

theorem lw_c40f (d n t T : Nat) (l5 l6 : Option Value) {xs : Nat → Int32} {μ : am_M2} {ν : am_N2} (hn : n ≤ 3584) (hi : 7 * t + 7 ≤ n) (hT : T < 2 ^ 19) (hR : REL T xs μ ν) (hb : xs (7 * t + 3) = 0) : am_v (d + 46) (Option.some FieldType.boolean) am_gl 1190 [some (.ref 0), some (.ref 2), some (.ref 133), some (.ref 151), some (.int (nI (7 * t))), l5, l6] [] (am_hp n μ ν) (lawQz n t T xs l5 l6) := by
  have hR0 := hR
  obtain ⟨X, V, nm, W, U, K, S, Y, hTp, hLg, ⟨hRx, hRm⟩, hG, hNm, h0⟩ := hR
  obtain ⟨hO, ⟨hI, hWt⟩, hU, hKm, hN, hYo⟩ := id hG
  have ht : W.2.2 < 2 ^ 20 := by omega
  refine am_e_aload_n rfl rfl ?_
  refine am_e_aload_n rfl rfl ?_
  refine am_e_iload rfl rfl ?_
  refine am_e_iconst (v := nI 1) rfl rfl ?_
  refine am_e_iadd rfl (nI_add _ _) ?_
  refine am_e_iald rfl rfl (am_ix_nI (show 7 * t + 1 < n by omega) (by omega)) (h0 _) ?_
  refine am_e_aload_n rfl rfl ?_
  refine am_e_iload rfl rfl ?_
  refine am_e_iconst (v := nI 2) rfl rfl ?_
  refine am_e_iadd rfl (nI_add _ _) ?_
  refine am_e_iald rfl rfl (am_ix_nI (show 7 * t + 2 < n by omega) (by omega)) (h0 _) ?_
  refine am_e_aload_n rfl rfl ?_
  refine am_e_iload rfl rfl ?_
  refine am_e_iconst (v := nI 3) rfl rfl ?_
  refine am_e_iadd rfl (nI_add _ _) ?_
  refine am_e_iald rfl rfl (am_ix_nI (show 7 * t + 3 < n by omega) (by omega)) (h0 _) ?_
  refine am_e_if_eq rfl (fun c_1209 => ?_) (fun c_1209 => absurd hb c_1209)
  refine am_e_iconst (v := nI 0) rfl rfl ?_
  obtain ⟨μ1, hx, hRx1, hfx⟩ := x_see (d + 43) (xs (7 * t + 1)) (xs (7 * t + 2)) false n ν hRx hO hI ht
  have hRm1 := mR_X hfx hRm
  have h01 : ∀ k, μ1 0 k = xs k := fun k => by rw [hfx 0 (by omega)]; exact h0 k
  refine am_e_call rfl rfl (hx) rfl ?_
  refine am_e_aload_n rfl rfl ?_
  refine am_e_aload_n rfl rfl ?_
  refine am_e_iload rfl rfl ?_
  refine am_e_iconst (v := nI 1) rfl rfl ?_
  refine am_e_iadd rfl (nI_add _ _) ?_
  refine am_e_iald rfl rfl (am_ix_nI (show 7 * t + 1 < n by omega) (by omega)) (h01 _) ?_
  refine am_e_aload_n rfl rfl ?_
  refine am_e_iload rfl rfl ?_
  refine am_e_iconst (v := nI 2) rfl rfl ?_
  refine am_e_iadd rfl (nI_add _ _) ?_
  refine am_e_iald rfl rfl (am_ix_nI (show 7 * t + 2 < n by omega) (by omega)) (h01 _) ?_
  refine am_e_aload_n rfl rfl ?_
  refine am_e_iload rfl rfl ?_
  refine am_e_iconst (v := nI 3) rfl rfl ?_
  refine am_e_iadd rfl (nI_add _ _) ?_
  refine am_e_iald rfl rfl (am_ix_nI (show 7 * t + 3 < n by omega) (by omega)) (h01 _) ?_
  refine am_e_if_eq rfl (fun c_1239 => ?_) (fun c_1239 => absurd hb c_1239)
  refine am_e_iconst (v := nI 0) rfl rfl ?_
  obtain ⟨μ2, hm, hRm2, hfm⟩ := m_see (d + 43) (xs (7 * t + 1)) (xs (7 * t + 2)) false n ν hRm1 hO hI ht
  obtain ⟨μ3, hm3, -, hft⟩ := n_see (d + 43) (xs (7 * t + 1)) (xs (7 * t + 2)) false n ν hRm1 hO hI ht
  obtain ⟨e3, -⟩ := hpE hm hm3
  subst e3
  refine am_e_call rfl rfl (hm) rfl ?_
  refine am_e_icmp_eq rfl (fun c_1250 => ?_) (fun c_1250 => absurd rfl c_1250)
  exact am_v0 ⟨rfl, rfl, rfl, _, _, rfl, REL_act hTp hLg hRx1 hfx hRm2 hfm hft (iG_see hG) hNm h0⟩

theorem lw_c40 (d n t T : Nat) (l5 l6 : Option Value) {xs : Nat → Int32} {μ : am_M2} {ν : am_N2} (hn : n ≤ 3584) (hi : 7 * t + 7 ≤ n) (hT : T < 2 ^ 19) (hR : REL T xs μ ν) : am_v (d + 46) (Option.some FieldType.boolean) am_gl 1190 [some (.ref 0), some (.ref 2), some (.ref 133), some (.ref 151), some (.int (nI (7 * t))), l5, l6] [] (am_hp n μ ν) (lawQz n t T xs l5 l6) := by
  by_cases hb : xs (7 * t + 3) = 0
  · exact lw_c40f d n t T l5 l6 hn hi hT hR hb
  · exact lw_c40t d n t T l5 l6 hn hi hT hR hb
theorem lw_c46t (d n t T : Nat) (l5 l6 : Option Value) {xs : Nat → Int32} {μ : am_M2} {ν : am_N2} (hn : n ≤ 3584) (hi : 7 * t + 7 ≤ n) (hT : T < 2 ^ 19) (hR : REL T xs μ ν) (hb : ¬ xs (7 * t + 2) = 0) : am_v (d + 46) (Option.some FieldType.boolean) am_gl 1471 [some (.ref 0), some (.ref 2), some (.ref 133), some (.ref 151), some (.int (nI (7 * t))), l5, l6] [] (am_hp n μ ν) (lawQz n t T xs l5 l6) := by
  have hR0 := hR
  obtain ⟨X, V, nm, W, U, K, S, Y, hTp, hLg, ⟨hRx, hRm⟩, hG, hNm, h0⟩ := hR
  obtain ⟨hO, ⟨hI, hWt⟩, hU, hKm, hN, hYo⟩ := id hG
  have ht : W.2.2 < 2 ^ 20 := by omega
  refine am_e_aload_n rfl rfl ?_
  refine am_e_aload_n rfl rfl ?_
  refine am_e_iload rfl rfl ?_
  refine am_e_iconst (v := nI 1) rfl rfl ?_
  refine am_e_iadd rfl (nI_add _ _) ?_
  refine am_e_iald rfl rfl (am_ix_nI (show 7 * t + 1 < n by omega) (by omega)) (h0 _) ?_
  refine am_e_aload_n rfl rfl ?_
  refine am_e_iload rfl rfl ?_
  refine am_e_iconst (v := nI 2) rfl rfl ?_
  refine am_e_iadd rfl (nI_add _ _) ?_
  refine am_e_iald rfl rfl (am_ix_nI (show 7 * t + 2 < n by omega) (by omega)) (h0 _) ?_
  refine am_e_if_eq rfl (fun c_1484 => absurd c_1484 hb) (fun c_1484 => ?_)
  refine am_e_iconst (v := nI 1) rfl rfl ?_
  refine am_e_goto rfl ?_
  obtain ⟨μ1, hx, hRx1, hfx⟩ := x_mark (d + 43) (xs (7 * t + 1)) true n ν hRx hO hI ht
  have hRm1 := mR_X hfx hRm
  have h01 : ∀ k, μ1 0 k = xs k := fun k => by rw [hfx 0 (by omega)]; exact h0 k
  refine am_e_call rfl rfl (hx) rfl ?_
  refine am_e_aload_n rfl rfl ?_
  refine am_e_aload_n rfl rfl ?_
  refine am_e_iload rfl rfl ?_
  refine am_e_iconst (v := nI 1) rfl rfl ?_
  refine am_e_iadd rfl (nI_add _ _) ?_
  refine am_e_iald rfl rfl (am_ix_nI (show 7 * t + 1 < n by omega) (by omega)) (h01 _) ?_
  refine am_e_aload_n rfl rfl ?_
  refine am_e_iload rfl rfl ?_
  refine am_e_iconst (v := nI 2) rfl rfl ?_
  refine am_e_iadd rfl (nI_add _ _) ?_
  refine am_e_iald rfl rfl (am_ix_nI (show 7 * t + 2 < n by omega) (by omega)) (h01 _) ?_
  refine am_e_if_eq rfl (fun c_1508 => absurd c_1508 hb) (fun c_1508 => ?_)
  refine am_e_iconst (v := nI 1) rfl rfl ?_
  refine am_e_goto rfl ?_
  obtain ⟨μ2, hm, hRm2, hfm⟩ := m_mark (d + 44) (xs (7 * t + 1)) true n ν hRm1 hO hI ht
  obtain ⟨μ3, hm3, -, hft⟩ := n_mark (d + 44) (xs (7 * t + 1)) true n ν hRm1 hO hI ht
  obtain ⟨e3, -⟩ := hpE hm hm3
  subst e3
  refine am_e_call rfl rfl (hm) rfl ?_
  refine am_e_icmp_eq rfl (fun c_1519 => ?_) (fun c_1519 => absurd rfl c_1519)
  exact am_v0 ⟨rfl, rfl, rfl, _, _, rfl, REL_act hTp hLg hRx1 hfx hRm2 hfm hft (iG_mark hG) hNm h0⟩

theorem lw_c46f (d n t T : Nat) (l5 l6 : Option Value) {xs : Nat → Int32} {μ : am_M2} {ν : am_N2} (hn : n ≤ 3584) (hi : 7 * t + 7 ≤ n) (hT : T < 2 ^ 19) (hR : REL T xs μ ν) (hb : xs (7 * t + 2) = 0) : am_v (d + 46) (Option.some FieldType.boolean) am_gl 1471 [some (.ref 0), some (.ref 2), some (.ref 133), some (.ref 151), some (.int (nI (7 * t))), l5, l6] [] (am_hp n μ ν) (lawQz n t T xs l5 l6) := by
  have hR0 := hR
  obtain ⟨X, V, nm, W, U, K, S, Y, hTp, hLg, ⟨hRx, hRm⟩, hG, hNm, h0⟩ := hR
  obtain ⟨hO, ⟨hI, hWt⟩, hU, hKm, hN, hYo⟩ := id hG
  have ht : W.2.2 < 2 ^ 20 := by omega
  refine am_e_aload_n rfl rfl ?_
  refine am_e_aload_n rfl rfl ?_
  refine am_e_iload rfl rfl ?_
  refine am_e_iconst (v := nI 1) rfl rfl ?_
  refine am_e_iadd rfl (nI_add _ _) ?_
  refine am_e_iald rfl rfl (am_ix_nI (show 7 * t + 1 < n by omega) (by omega)) (h0 _) ?_
  refine am_e_aload_n rfl rfl ?_
  refine am_e_iload rfl rfl ?_
  refine am_e_iconst (v := nI 2) rfl rfl ?_
  refine am_e_iadd rfl (nI_add _ _) ?_
  refine am_e_iald rfl rfl (am_ix_nI (show 7 * t + 2 < n by omega) (by omega)) (h0 _) ?_
  refine am_e_if_eq rfl (fun c_1484 => ?_) (fun c_1484 => absurd hb c_1484)
  refine am_e_iconst (v := nI 0) rfl rfl ?_
  obtain ⟨μ1, hx, hRx1, hfx⟩ := x_mark (d + 43) (xs (7 * t + 1)) false n ν hRx hO hI ht
  have hRm1 := mR_X hfx hRm
  have h01 : ∀ k, μ1 0 k = xs k := fun k => by rw [hfx 0 (by omega)]; exact h0 k
  refine am_e_call rfl rfl (hx) rfl ?_
  refine am_e_aload_n rfl rfl ?_
  refine am_e_aload_n rfl rfl ?_
  refine am_e_iload rfl rfl ?_
  refine am_e_iconst (v := nI 1) rfl rfl ?_
  refine am_e_iadd rfl (nI_add _ _) ?_
  refine am_e_iald rfl rfl (am_ix_nI (show 7 * t + 1 < n by omega) (by omega)) (h01 _) ?_
  refine am_e_aload_n rfl rfl ?_
  refine am_e_iload rfl rfl ?_
  refine am_e_iconst (v := nI 2) rfl rfl ?_
  refine am_e_iadd rfl (nI_add _ _) ?_
  refine am_e_iald rfl rfl (am_ix_nI (show 7 * t + 2 < n by omega) (by omega)) (h01 _) ?_
  refine am_e_if_eq rfl (fun c_1508 => ?_) (fun c_1508 => absurd hb c_1508)
  refine am_e_iconst (v := nI 0) rfl rfl ?_
  obtain ⟨μ2, hm, hRm2, hfm⟩ := m_mark (d + 44) (xs (7 * t + 1)) false n ν hRm1 hO hI ht
  obtain ⟨μ3, hm3, -, hft⟩ := n_mark (d + 44) (xs (7 * t + 1)) false n ν hRm1 hO hI ht
  obtain ⟨e3, -⟩ := hpE hm hm3
  subst e3
  refine am_e_call rfl rfl (hm) rfl ?_
  refine am_e_icmp_eq rfl (fun c_1519 => ?_) (fun c_1519 => absurd rfl c_1519)
  exact am_v0 ⟨rfl, rfl, rfl, _, _, rfl, REL_act hTp hLg hRx1 hfx hRm2 hfm hft (iG_mark hG) hNm h0⟩

theorem lw_c46 (d n t T : Nat) (l5 l6 : Option Value) {xs : Nat → Int32} {μ : am_M2} {ν : am_N2} (hn : n ≤ 3584) (hi : 7 * t + 7 ≤ n) (hT : T < 2 ^ 19) (hR : REL T xs μ ν) : am_v (d + 46) (Option.some FieldType.boolean) am_gl 1471 [some (.ref 0), some (.ref 2), some (.ref 133), some (.ref 151), some (.int (nI (7 * t))), l5, l6] [] (am_hp n μ ν) (lawQz n t T xs l5 l6) := by
  by_cases hb : xs (7 * t + 2) = 0
  · exact lw_c46f d n t T l5 l6 hn hi hT hR hb
  · exact lw_c46t d n t T l5 l6 hn hi hT hR hb