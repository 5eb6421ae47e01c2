theorem lgc0 (x : Int64) : lg_cmp x x = nI 0 := by
  unfold lg_cmp
  rw [if_neg (fun z => Int64.lt_irrefl z), if_pos rfl]
  rfl
theorem REL_nu {T : Nat} {xs : Nat → Int32} {μ : am_M2} {ν ν' : am_N2} (hl : ∀ i k, i ≠ 151 → ν' i k = ν i k) (h : REL T xs μ ν) : REL T xs μ ν' := by
  obtain ⟨X, V, nm, W, U, K, S, Y, hT, ⟨hLx, hLm⟩, hR, hG, ⟨hn1, hn2, hn3⟩, h0⟩ := h
  exact ⟨X, V, nm, W, U, K, S, Y, hT, ⟨fun r hr => (hl 1 r (by omega)).trans (hLx r hr), fun r hr => (hl 138 r (by omega)).trans (hLm r hr)⟩, hR, hG, ⟨fun s hs => ⟨(hl 6 s (by omega)).trans (hn1 s hs).1, (hn1 s hs).2⟩, fun s hs => ⟨(hl 141 _ (by omega)).trans (hn2 s hs).1, (hn2 s hs).2⟩, hn3⟩, h0⟩
theorem rlN_o (ν : am_N2) (q : Option Int32) : ∀ i k, i ≠ 151 → rlN ν q i k = ν i k := fun i k hi => by
  cases q with
  | none => rfl
  | some r => exact upL_n (Or.inl hi)
def lawRz (n t : Nat) (xs : Nat → Int32) (l5 l6 : Option Value) (μ : am_M2) (ν : am_N2) (a : Nat) (b : am_L) (c : List Value) (e : am_H) : Prop := a = 1356 ∧ b = [some (.ref 0), some (.ref 2), some (.ref 133), some (.ref 151), some (.int (nI (7 * t))), l5, l6] ∧ c = [.ref 151, .int (xs (7 * t + 4)), .int (xs (7 * t + 3)), .int (xs (7 * t + 2)), .int (xs (7 * t + 1)), .ref 2] ∧ e = am_hp n μ ν
theorem lw_c44a (d n t T : Nat) (l5 l6 : Option Value) {xs : Nat → Int32} {μ : am_M2} {ν : am_N2} (hn : n ≤ 3584) (hi : 7 * t + 7 ≤ n) (hT : T < 2 ^ 19) (hR : REL T xs μ ν) : am_v (d + 46) (Option.some FieldType.boolean) am_gl 1330 [some (.ref 0), some (.ref 2), some (.ref 133), some (.ref 151), some (.int (nI (7 * t))), l5, l6] [] (am_hp n μ ν) (lawRz n t xs l5 l6 μ ν) := by
  have hR0 := hR
  obtain ⟨X, V, nm, W, U, K, S, Y, hTp, hLg, ⟨hRx, hRm⟩, hG, hNm, h0⟩ := hR
  obtain ⟨hO, ⟨hI, hWt⟩, hU, hKm, hN, hYo⟩ := id hG
  have ht : W.2.2 < 2 ^ 20 := by omega
  refine am_e_aload_n rfl rfl ?_
  refine am_e_aload_n rfl rfl ?_
  refine am_e_iload rfl rfl ?_
  refine am_e_iconst (v := nI 1) rfl rfl ?_
  refine am_e_iadd rfl (nI_add _ _) ?_
  refine am_e_iald rfl rfl (am_ix_nI (show 7 * t + 1 < n by omega) (by omega)) (h0 _) ?_
  refine am_e_aload_n rfl rfl ?_
  refine am_e_iload rfl rfl ?_
  refine am_e_iconst (v := nI 2) rfl rfl ?_
  refine am_e_iadd rfl (nI_add _ _) ?_
  refine am_e_iald rfl rfl (am_ix_nI (show 7 * t + 2 < n by omega) (by omega)) (h0 _) ?_
  refine am_e_aload_n rfl rfl ?_
  refine am_e_iload rfl rfl ?_
  refine am_e_iconst (v := nI 3) rfl rfl ?_
  refine am_e_iadd rfl (nI_add _ _) ?_
  refine am_e_iald rfl rfl (am_ix_nI (show 7 * t + 3 < n by omega) (by omega)) (h0 _) ?_
  refine am_e_aload_n rfl rfl ?_
  refine am_e_iload rfl rfl ?_
  refine am_e_iconst (v := nI 4) rfl rfl ?_
  refine am_e_iadd rfl (nI_add _ _) ?_
  refine am_e_iald rfl rfl (am_ix_nI (show 7 * t + 4 < n by omega) (by omega)) (h0 _) ?_
  refine am_e_aload_n rfl rfl ?_
  exact am_v0 ⟨rfl, rfl, rfl, rfl⟩

theorem lw_c44s (d n t T : Nat) (l5 l6 : Option Value) {xs : Nat → Int32} {μ : am_M2} {ν : am_N2} (hn : n ≤ 3584) (hi : 7 * t + 7 ≤ n) (hT : T < 2 ^ 19) (hR : REL T xs μ ν) (r : Int32) (hq : rsQ (xs (7 * t + 1)) (xs (7 * t + 2)) (xs (7 * t + 3)) (xs (7 * t + 4)) = some r) : am_v (d + 46) (Option.some FieldType.boolean) am_gl 1359 [some (.ref 0), some (.ref 2), some (.ref 133), some (.ref 151), some (.int (nI (7 * t))), l5, l6] [.int (nI 0)] (am_hp n μ (am_upL ν 151 0 r.toInt64)) (lawQz n t T xs (some (.int (nI 0))) (some (.int r))) := by
  have h0 : ∀ k, μ 0 k = xs k := by obtain ⟨X, V, nm, W, U, K, S, Y, -, -, -, -, -, h0⟩ := hR; exact h0
  refine am_e_istore [some _, some _, some _, some _, some _, some _, _] rfl (Nat.le_of_ble_eq_true rfl) rfl ?_
  refine am_e_aload_n rfl rfl ?_
  refine am_e_aload_n rfl rfl ?_
  refine am_e_iload rfl rfl ?_
  refine am_e_iconst (v := nI 1) rfl rfl ?_
  refine am_e_iadd rfl (nI_add _ _) ?_
  refine am_e_iald rfl rfl (am_ix_nI (show 7 * t + 1 < n by omega) (by omega)) (h0 _) ?_
  refine am_e_aload_n rfl rfl ?_
  refine am_e_iload rfl rfl ?_
  refine am_e_iconst (v := nI 2) rfl rfl ?_
  refine am_e_iadd rfl (nI_add _ _) ?_
  refine am_e_iald rfl rfl (am_ix_nI (show 7 * t + 2 < n by omega) (by omega)) (h0 _) ?_
  refine am_e_aload_n rfl rfl ?_
  refine am_e_iload rfl rfl ?_
  refine am_e_iconst (v := nI 3) rfl rfl ?_
  refine am_e_iadd rfl (nI_add _ _) ?_
  refine am_e_iald rfl rfl (am_ix_nI (show 7 * t + 3 < n by omega) (by omega)) (h0 _) ?_
  refine am_e_aload_n rfl rfl ?_
  refine am_e_iload rfl rfl ?_
  refine am_e_iconst (v := nI 4) rfl rfl ?_
  refine am_e_iadd rfl (nI_add _ _) ?_
  refine am_e_iald rfl rfl (am_ix_nI (show 7 * t + 4 < n by omega) (by omega)) (h0 _) ?_
  have hm := m_rests (d + 44) (xs (7 * t + 1)) (xs (7 * t + 2)) (xs (7 * t + 3)) (xs (7 * t + 4)) n (μ := μ) (am_upL ν 151 0 r.toInt64)
  rw [hq] at hm
  dsimp only [rsV, rsK] at hm
  refine am_e_call rfl rfl (hm) rfl ?_
  refine am_e_istore [some _, some _, some _, some _, some _, some _, some _] rfl (Nat.le_of_ble_eq_true rfl) rfl ?_
  refine am_e_aload_n rfl rfl ?_
  refine am_e_call rfl rfl (m_thrown (d + 45) n (nI 0) _ am_up_eq) rfl ?_
  refine am_e_iload rfl rfl ?_
  refine am_e_icmp_eq rfl (fun c_1397 => ?_) (fun c_1397 => absurd rfl c_1397)
  refine am_e_iload rfl rfl ?_
  refine am_e_if_ne rfl (fun c_1404 => absurd (show nI 0 = 0 from rfl) c_1404) (fun c_1404 => ?_)
  refine am_e_aload_n rfl rfl ?_
  refine am_e_iconst (v := nI 0) rfl rfl ?_
  refine am_e_lald rfl rfl (show am_ix (nI 0) 1 = some 0 from rfl) upL_e ?_
  refine am_e_iload rfl rfl ?_
  refine am_e_i2l rfl rfl ?_
  refine am_e_lcmp rfl (lgc0 _) ?_
  refine am_e_if_eq rfl (fun c_1414 => ?_) (fun c_1414 => absurd (show nI 0 = 0 from rfl) c_1414)
  refine am_e_goto rfl ?_
  exact am_v0 ⟨rfl, rfl, rfl, _, _, rfl, REL_fr (fr_up (by omega)) (frL_rf _) (REL_nu (fun i k hi => upL_n (Or.inl hi)) hR)⟩

theorem lw_c44n (d n t T : Nat) (l5 l6 : Option Value) {xs : Nat → Int32} {μ : am_M2} {ν : am_N2} (hn : n ≤ 3584) (hi : 7 * t + 7 ≤ n) (hT : T < 2 ^ 19) (hR : REL T xs μ ν) (hq : rsQ (xs (7 * t + 1)) (xs (7 * t + 2)) (xs (7 * t + 3)) (xs (7 * t + 4)) = none) : am_v (d + 46) (Option.some FieldType.boolean) am_gl 1359 [some (.ref 0), some (.ref 2), some (.ref 133), some (.ref 151), some (.int (nI (7 * t))), l5, l6] [.int (nI 1)] (am_hp n μ ν) (lawQz n t T xs (some (.int (nI 1))) (some (.int (nI 0)))) := by
  have h0 : ∀ k, μ 0 k = xs k := by obtain ⟨X, V, nm, W, U, K, S, Y, -, -, -, -, -, h0⟩ := hR; exact h0
  refine am_e_istore [some _, some _, some _, some _, some _, some _, _] rfl (Nat.le_of_ble_eq_true rfl) rfl ?_
  refine am_e_aload_n rfl rfl ?_
  refine am_e_aload_n rfl rfl ?_
  refine am_e_iload rfl rfl ?_
  refine am_e_iconst (v := nI 1) rfl rfl ?_
  refine am_e_iadd rfl (nI_add _ _) ?_
  refine am_e_iald rfl rfl (am_ix_nI (show 7 * t + 1 < n by omega) (by omega)) (h0 _) ?_
  refine am_e_aload_n rfl rfl ?_
  refine am_e_iload rfl rfl ?_
  refine am_e_iconst (v := nI 2) rfl rfl ?_
  refine am_e_iadd rfl (nI_add _ _) ?_
  refine am_e_iald rfl rfl (am_ix_nI (show 7 * t + 2 < n by omega) (by omega)) (h0 _) ?_
  refine am_e_aload_n rfl rfl ?_
  refine am_e_iload rfl rfl ?_
  refine am_e_iconst (v := nI 3) rfl rfl ?_
  refine am_e_iadd rfl (nI_add _ _) ?_
  refine am_e_iald rfl rfl (am_ix_nI (show 7 * t + 3 < n by omega) (by omega)) (h0 _) ?_
  refine am_e_aload_n rfl rfl ?_
  refine am_e_iload rfl rfl ?_
  refine am_e_iconst (v := nI 4) rfl rfl ?_
  refine am_e_iadd rfl (nI_add _ _) ?_
  refine am_e_iald rfl rfl (am_ix_nI (show 7 * t + 4 < n by omega) (by omega)) (h0 _) ?_
  have hm := m_rests (d + 44) (xs (7 * t + 1)) (xs (7 * t + 2)) (xs (7 * t + 3)) (xs (7 * t + 4)) n (μ := μ) ν
  rw [hq] at hm
  dsimp only [rsV, rsK] at hm
  refine am_e_call rfl rfl (hm) rfl ?_
  refine am_e_istore [some _, some _, some _, some _, some _, some _, some _] rfl (Nat.le_of_ble_eq_true rfl) rfl ?_
  refine am_e_aload_n rfl rfl ?_
  refine am_e_call rfl rfl (m_thrown (d + 45) n (nI 1) _ am_up_eq) rfl ?_
  refine am_e_iload rfl rfl ?_
  refine am_e_icmp_eq rfl (fun c_1397 => ?_) (fun c_1397 => absurd rfl c_1397)
  refine am_e_iload rfl rfl ?_
  refine am_e_if_ne rfl (fun c_1404 => ?_) (fun c_1404 => absurd (show nI 1 = 0 from c_1404) (by decide))
  refine am_e_goto rfl ?_
  exact am_v0 ⟨rfl, rfl, rfl, _, _, rfl, REL_fr (fr_up (by omega)) (frL_rf _) (REL_nu (fun i k hi => rfl) hR)⟩

theorem lw_c44b (d n t T : Nat) (l5 l6 : Option Value) {xs : Nat → Int32} {μ : am_M2} {ν : am_N2} (hn : n ≤ 3584) (hi : 7 * t + 7 ≤ n) (hT : T < 2 ^ 19) (hR : REL T xs μ ν) : am_v (d + 46) (Option.some FieldType.boolean) am_gl 1359 [some (.ref 0), some (.ref 2), some (.ref 133), some (.ref 151), some (.int (nI (7 * t))), l5, l6] [.int (rsK (rsQ (xs (7 * t + 1)) (xs (7 * t + 2)) (xs (7 * t + 3)) (xs (7 * t + 4))))] (am_hp n μ (rlN ν (rsQ (xs (7 * t + 1)) (xs (7 * t + 2)) (xs (7 * t + 3)) (xs (7 * t + 4))))) (lawQz n t T xs (some (.int (rsK (rsQ (xs (7 * t + 1)) (xs (7 * t + 2)) (xs (7 * t + 3)) (xs (7 * t + 4)))))) (some (.int (rsV (rsQ (xs (7 * t + 1)) (xs (7 * t + 2)) (xs (7 * t + 3)) (xs (7 * t + 4))))))) := by
  cases hq : rsQ (xs (7 * t + 1)) (xs (7 * t + 2)) (xs (7 * t + 3)) (xs (7 * t + 4)) with
  | some r => exact lw_c44s d n t T l5 l6 hn hi hT hR r hq
  | none => exact lw_c44n d n t T l5 l6 hn hi hT hR hq