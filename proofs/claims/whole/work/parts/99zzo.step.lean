theorem nI_all (v : Int32) : ∃ a, v = nI a := ⟨v.toUInt32.toNat, by
  exact congrArg UInt32.toInt32 (show v.toUInt32 = UInt32.ofNat v.toUInt32.toNat from by simp)⟩
theorem and63 (v : Int32) : ∃ j, j < 64 ∧ v &&& nI 63 = nI j := by
  obtain ⟨a, rfl⟩ := nI_all v
  exact ⟨a &&& 63, Nat.and_lt_two_pow a (n := 6) (by decide), sn_and _ _⟩
theorem nI_s7 {n : Nat} (h : 7 ≤ n) : nI n - nI 7 = nI (n - 7) := by
  have e := nI_add (n - 7) 7
  rw [show n - 7 + 7 = n by omega] at e
  rw [← e]
  exact Int32.add_sub_cancel _ _
theorem nI_s6 : ∀ n, n < 7 → nI n - nI 7 < nI 0 := by decide
theorem nI_lt2 {a b : Nat} (ha : a < 2 ^ 31) (hb : b < 2 ^ 31) : nI a < nI b ↔ a < b := by
  constructor
  · intro h
    rcases Nat.lt_or_ge a b with z | z
    · exact z
    · exact absurd h (Int32.not_lt.mpr (nI_le z ha))
  · intro h
    rcases Nat.lt_or_ge a b with z | z
    · exact Int32.not_le.mp (fun q => by
        have := Int32.le_antisymm q (nI_le (Nat.le_of_lt z) hb)
        have := (sn_eq hb ha).mp this
        omega)
    · omega
/-- whether a call is left -/
theorem lw_cmp {n t : Nat} (hn : n ≤ 3584) (ht : 7 * t ≤ n) : nI n - nI 7 < nI (7 * t) ↔ n < 7 * t + 7 := by
  rcases Nat.lt_or_ge n 7 with h | h
  · have e : t = 0 := by omega
    subst e
    exact ⟨fun _ => by omega, fun _ => nI_s6 n h⟩
  · rw [nI_s7 h, nI_lt2 (by omega) (by omega)]
    omega
def lw_tsw (j : Nat) : Option Nat := am_tsw 40 1509 0 47 [208, 355, 368, 381, 418, 443, 468, 505, 530, 543, 556, 581, 606, 631, 656, 681, 694, 707, 732, 745, 782, 819, 844, 857, 870, 883, 920, 933, 958, 971, 996, 1009, 1022, 1047, 1060, 1073, 1086, 1099, 1124, 1137, 1150, 1215, 1228, 1241, 1290, 1382, 1431, 1484] (nI j)
theorem lw_def0 : ∀ j, j < 64 → 48 ≤ j → lw_tsw j = some 1549 := by decide +kernel
theorem lw_def (j : Nat) (h : 48 ≤ j) (h' : j < 64) : lw_tsw j = some 1549 := lw_def0 j h' h
theorem lw_hd (d n t T : Nat) (l5 l6 : Option Value) {xs : Nat → Int32} {μ : am_M2} {ν : am_N2} (hn : n ≤ 3584) (hi : 7 * t + 7 ≤ n) (hT : T < 2 ^ 19) (hR : REL T xs μ ν) (h0 : ∀ k, μ 0 k = xs k) (j tg : Nat) (hv : xs (7 * t) &&& nI 63 = nI j) (htg : lw_tsw j = some tg) (P : Nat → am_L → List Value → am_H → Prop) (K : am_v (d + 46) (Option.some FieldType.boolean) am_gl tg [some (.ref 0), some (.ref 2), some (.ref 133), some (.ref 151), some (.int (nI (7 * t))), l5, l6] [] (am_hp n μ ν) P) : am_v (d + 46) (Option.some FieldType.boolean) am_gl 23 [some (.ref 0), some (.ref 2), some (.ref 133), some (.ref 151), some (.int (nI (7 * t))), l5, l6] [] (am_hp n μ ν) (P) := by
  refine am_e_iload rfl rfl ?_
  refine am_e_aload_n rfl rfl ?_
  refine am_e_alen rfl rfl (v := _) rfl ?_
  refine am_e_bipush (v := nI 7) rfl rfl ?_
  refine am_e_isub rfl rfl ?_
  refine am_e_icmp_gt rfl (fun c_30 => absurd ((lw_cmp hn (by omega)).mp c_30) (by omega)) (fun c_30 => ?_)
  refine am_e_aload_n rfl rfl ?_
  refine am_e_iload rfl rfl ?_
  refine am_e_iald rfl rfl (am_ix_nI (show 7 * t < n by omega) (by omega)) (h0 _) ?_
  refine am_e_bipush (v := nI 63) rfl rfl ?_
  refine am_e_iand rfl hv ?_
  exact am_e_tsw rfl htg K

theorem lw_en (d n t : Nat) (l5 l6 : Option Value) {μ : am_M2} {ν : am_N2} (hn : n ≤ 3584) (ht : 7 * t ≤ n) (hi : n < 7 * t + 7) (P : Nat → am_L → List Value → am_H → Prop) (K : ∀ L, L.length = 7 → P 1555 L [] (am_hp n μ ν)) : am_v (d + 46) (Option.some FieldType.boolean) am_gl 23 [some (.ref 0), some (.ref 2), some (.ref 133), some (.ref 151), some (.int (nI (7 * t))), l5, l6] [] (am_hp n μ ν) (P) := by
  refine am_e_iload rfl rfl ?_
  refine am_e_aload_n rfl rfl ?_
  refine am_e_alen rfl rfl (v := _) rfl ?_
  refine am_e_bipush (v := nI 7) rfl rfl ?_
  refine am_e_isub rfl rfl ?_
  refine am_e_icmp_gt rfl (fun c_30 => ?_) (fun c_30 => absurd ((lw_cmp hn ht).mpr hi) c_30)
  exact am_v0 (K _ rfl)

theorem lw_step (d n t T : Nat) (l5 l6 : Option Value) {xs : Nat → Int32} {μ : am_M2} {ν : am_N2} (hn : n ≤ 3584) (hi : 7 * t + 7 ≤ n) (hT : T < 2 ^ 19) (hR : REL T xs μ ν) : am_v (d + 46) (Option.some FieldType.boolean) am_gl 23 [some (.ref 0), some (.ref 2), some (.ref 133), some (.ref 151), some (.int (nI (7 * t))), l5, l6] [] (am_hp n μ ν) (fun a b c e => lawQz n t T xs l5 l6 a b c e ∨ lawRz n t xs l5 l6 μ ν a b c e) := by
  have h0 : ∀ k, μ 0 k = xs k := by obtain ⟨X, V, nm, W, U, K, S, Y, -, -, -, -, -, h0⟩ := hR; exact h0
  obtain ⟨j, hj, hv⟩ := and63 (xs (7 * t))
  by_cases h48 : 48 ≤ j
  · exact lw_hd d n t T l5 l6 hn hi hT hR h0 j 1549 hv (lw_def j h48 hj) _ (am_v0 (Or.inl ⟨rfl, rfl, rfl, _, _, rfl, REL_fr (fr_rf μ) (frL_rf ν) hR⟩))
  rcases (show j = 0 ∨ j = 1 ∨ j = 2 ∨ j = 3 ∨ j = 4 ∨ j = 5 ∨ j = 6 ∨ j = 7 ∨ j = 8 ∨ j = 9 ∨ j = 10 ∨ j = 11 ∨ j = 12 ∨ j = 13 ∨ j = 14 ∨ j = 15 ∨ j = 16 ∨ j = 17 ∨ j = 18 ∨ j = 19 ∨ j = 20 ∨ j = 21 ∨ j = 22 ∨ j = 23 ∨ j = 24 ∨ j = 25 ∨ j = 26 ∨ j = 27 ∨ j = 28 ∨ j = 29 ∨ j = 30 ∨ j = 31 ∨ j = 32 ∨ j = 33 ∨ j = 34 ∨ j = 35 ∨ j = 36 ∨ j = 37 ∨ j = 38 ∨ j = 39 ∨ j = 40 ∨ j = 41 ∨ j = 42 ∨ j = 43 ∨ j = 44 ∨ j = 45 ∨ j = 46 ∨ j = 47 by omega) with rfl | rfl | rfl | rfl | rfl | rfl | rfl | rfl | rfl | rfl | rfl | rfl | rfl | rfl | rfl | rfl | rfl | rfl | rfl | rfl | rfl | rfl | rfl | rfl | rfl | rfl | rfl | rfl | rfl | rfl | rfl | rfl | rfl | rfl | rfl | rfl | rfl | rfl | rfl | rfl | rfl | rfl | rfl | rfl | rfl | rfl | rfl | rfl
  · exact lw_hd d n t T l5 l6 hn hi hT hR h0 0 248 hv (by decide +kernel) _ (am_v_mono (fun _ _ _ _ z => Or.inl z) (lw_c0 d n t T l5 l6 hn hi hT hR))
  · exact lw_hd d n t T l5 l6 hn hi hT hR h0 1 395 hv (by decide +kernel) _ (am_v_mono (fun _ _ _ _ z => Or.inl z) (lw_c1 d n t T l5 l6 hn hi hT hR))
  · exact lw_hd d n t T l5 l6 hn hi hT hR h0 2 408 hv (by decide +kernel) _ (am_v_mono (fun _ _ _ _ z => Or.inl z) (lw_c2 d n t T l5 l6 hn hi hT hR))
  · exact lw_hd d n t T l5 l6 hn hi hT hR h0 3 421 hv (by decide +kernel) _ (am_v_mono (fun _ _ _ _ z => Or.inl z) (lw_c3 d n t T l5 l6 hn hi hT hR))
  · exact lw_hd d n t T l5 l6 hn hi hT hR h0 4 458 hv (by decide +kernel) _ (am_v_mono (fun _ _ _ _ z => Or.inl z) (lw_c4 d n t T l5 l6 hn hi hT hR))
  · exact lw_hd d n t T l5 l6 hn hi hT hR h0 5 483 hv (by decide +kernel) _ (am_v_mono (fun _ _ _ _ z => Or.inl z) (lw_c5 d n t T l5 l6 hn hi hT hR))
  · exact lw_hd d n t T l5 l6 hn hi hT hR h0 6 508 hv (by decide +kernel) _ (am_v_mono (fun _ _ _ _ z => Or.inl z) (lw_c6 d n t T l5 l6 hn hi hT hR))
  · exact lw_hd d n t T l5 l6 hn hi hT hR h0 7 545 hv (by decide +kernel) _ (am_v_mono (fun _ _ _ _ z => Or.inl z) (lw_c7 d n t T l5 l6 hn hi hT hR))
  · exact lw_hd d n t T l5 l6 hn hi hT hR h0 8 570 hv (by decide +kernel) _ (am_v_mono (fun _ _ _ _ z => Or.inl z) (lw_c8 d n t T l5 l6 hn hi hT hR))
  · exact lw_hd d n t T l5 l6 hn hi hT hR h0 9 583 hv (by decide +kernel) _ (am_v_mono (fun _ _ _ _ z => Or.inl z) (lw_c9 d n t T l5 l6 hn hi hT hR))
  · exact lw_hd d n t T l5 l6 hn hi hT hR h0 10 596 hv (by decide +kernel) _ (am_v_mono (fun _ _ _ _ z => Or.inl z) (lw_c10 d n t T l5 l6 hn hi hT hR))
  · exact lw_hd d n t T l5 l6 hn hi hT hR h0 11 621 hv (by decide +kernel) _ (am_v_mono (fun _ _ _ _ z => Or.inl z) (lw_c11 d n t T l5 l6 hn hi hT hR))
  · exact lw_hd d n t T l5 l6 hn hi hT hR h0 12 646 hv (by decide +kernel) _ (am_v_mono (fun _ _ _ _ z => Or.inl z) (lw_c12 d n t T l5 l6 hn hi hT hR))
  · exact lw_hd d n t T l5 l6 hn hi hT hR h0 13 671 hv (by decide +kernel) _ (am_v_mono (fun _ _ _ _ z => Or.inl z) (lw_c13 d n t T l5 l6 hn hi hT hR))
  · exact lw_hd d n t T l5 l6 hn hi hT hR h0 14 696 hv (by decide +kernel) _ (am_v_mono (fun _ _ _ _ z => Or.inl z) (lw_c14 d n t T l5 l6 hn hi hT hR))
  · exact lw_hd d n t T l5 l6 hn hi hT hR h0 15 721 hv (by decide +kernel) _ (am_v_mono (fun _ _ _ _ z => Or.inl z) (lw_c15 d n t T l5 l6 hn hi hT hR))
  · exact lw_hd d n t T l5 l6 hn hi hT hR h0 16 734 hv (by decide +kernel) _ (am_v_mono (fun _ _ _ _ z => Or.inl z) (lw_c16 d n t T l5 l6 hn hi hT hR))
  · exact lw_hd d n t T l5 l6 hn hi hT hR h0 17 747 hv (by decide +kernel) _ (am_v_mono (fun _ _ _ _ z => Or.inl z) (lw_c17 d n t T l5 l6 hn hi hT hR))
  · exact lw_hd d n t T l5 l6 hn hi hT hR h0 18 772 hv (by decide +kernel) _ (am_v_mono (fun _ _ _ _ z => Or.inl z) (lw_c18 d n t T l5 l6 hn hi hT hR))
  · exact lw_hd d n t T l5 l6 hn hi hT hR h0 19 785 hv (by decide +kernel) _ (am_v_mono (fun _ _ _ _ z => Or.inl z) (lw_c19 d n t T l5 l6 hn hi hT hR))
  · exact lw_hd d n t T l5 l6 hn hi hT hR h0 20 822 hv (by decide +kernel) _ (am_v_mono (fun _ _ _ _ z => Or.inl z) (lw_c20 d n t T l5 l6 hn hi hT hR))
  · exact lw_hd d n t T l5 l6 hn hi hT hR h0 21 859 hv (by decide +kernel) _ (am_v_mono (fun _ _ _ _ z => Or.inl z) (lw_c21 d n t T l5 l6 hn hi hT hR))
  · exact lw_hd d n t T l5 l6 hn hi hT hR h0 22 884 hv (by decide +kernel) _ (am_v_mono (fun _ _ _ _ z => Or.inl z) (lw_c22 d n t T l5 l6 hn hi hT hR))
  · exact lw_hd d n t T l5 l6 hn hi hT hR h0 23 897 hv (by decide +kernel) _ (am_v_mono (fun _ _ _ _ z => Or.inl z) (lw_c23 d n t T l5 l6 hn hi hT hR))
  · exact lw_hd d n t T l5 l6 hn hi hT hR h0 24 910 hv (by decide +kernel) _ (am_v_mono (fun _ _ _ _ z => Or.inl z) (lw_c24 d n t T l5 l6 hn hi hT hR))
  · exact lw_hd d n t T l5 l6 hn hi hT hR h0 25 923 hv (by decide +kernel) _ (am_v_mono (fun _ _ _ _ z => Or.inl z) (lw_c25 d n t T l5 l6 hn hi hT hR))
  · exact lw_hd d n t T l5 l6 hn hi hT hR h0 26 960 hv (by decide +kernel) _ (am_v_mono (fun _ _ _ _ z => Or.inl z) (lw_c26 d n t T l5 l6 hn hi hT hR))
  · exact lw_hd d n t T l5 l6 hn hi hT hR h0 27 973 hv (by decide +kernel) _ (am_v_mono (fun _ _ _ _ z => Or.inl z) (lw_c27 d n t T l5 l6 hn hi hT hR))
  · exact lw_hd d n t T l5 l6 hn hi hT hR h0 28 998 hv (by decide +kernel) _ (am_v_mono (fun _ _ _ _ z => Or.inl z) (lw_c28 d n t T l5 l6 hn hi hT hR))
  · exact lw_hd d n t T l5 l6 hn hi hT hR h0 29 1011 hv (by decide +kernel) _ (am_v_mono (fun _ _ _ _ z => Or.inl z) (lw_c29 d n t T l5 l6 hn hi hT hR))
  · exact lw_hd d n t T l5 l6 hn hi hT hR h0 30 1036 hv (by decide +kernel) _ (am_v_mono (fun _ _ _ _ z => Or.inl z) (lw_c30 d n t T l5 l6 hn hi hT hR))
  · exact lw_hd d n t T l5 l6 hn hi hT hR h0 31 1049 hv (by decide +kernel) _ (am_v_mono (fun _ _ _ _ z => Or.inl z) (lw_c31 d n t T l5 l6 hn hi hT hR))
  · exact lw_hd d n t T l5 l6 hn hi hT hR h0 32 1062 hv (by decide +kernel) _ (am_v_mono (fun _ _ _ _ z => Or.inl z) (lw_c32 d n t T l5 l6 hn hi hT hR))
  · exact lw_hd d n t T l5 l6 hn hi hT hR h0 33 1087 hv (by decide +kernel) _ (am_v_mono (fun _ _ _ _ z => Or.inl z) (lw_c33 d n t T l5 l6 hn hi hT hR))
  · exact lw_hd d n t T l5 l6 hn hi hT hR h0 34 1100 hv (by decide +kernel) _ (am_v_mono (fun _ _ _ _ z => Or.inl z) (lw_c34 d n t T l5 l6 hn hi hT hR))
  · exact lw_hd d n t T l5 l6 hn hi hT hR h0 35 1113 hv (by decide +kernel) _ (am_v_mono (fun _ _ _ _ z => Or.inl z) (lw_c35 d n t T l5 l6 hn hi hT hR))
  · exact lw_hd d n t T l5 l6 hn hi hT hR h0 36 1126 hv (by decide +kernel) _ (am_v_mono (fun _ _ _ _ z => Or.inl z) (lw_c36 d n t T l5 l6 hn hi hT hR))
  · exact lw_hd d n t T l5 l6 hn hi hT hR h0 37 1139 hv (by decide +kernel) _ (am_v_mono (fun _ _ _ _ z => Or.inl z) (lw_c37 d n t T l5 l6 hn hi hT hR))
  · exact lw_hd d n t T l5 l6 hn hi hT hR h0 38 1164 hv (by decide +kernel) _ (am_v_mono (fun _ _ _ _ z => Or.inl z) (lw_c38 d n t T l5 l6 hn hi hT hR))
  · exact lw_hd d n t T l5 l6 hn hi hT hR h0 39 1177 hv (by decide +kernel) _ (am_v_mono (fun _ _ _ _ z => Or.inl z) (lw_c39 d n t T l5 l6 hn hi hT hR))
  · exact lw_hd d n t T l5 l6 hn hi hT hR h0 40 1190 hv (by decide +kernel) _ (am_v_mono (fun _ _ _ _ z => Or.inl z) (lw_c40 d n t T l5 l6 hn hi hT hR))
  · exact lw_hd d n t T l5 l6 hn hi hT hR h0 41 1255 hv (by decide +kernel) _ (am_v_mono (fun _ _ _ _ z => Or.inl z) (lw_c41 d n t T l5 l6 hn hi hT hR))
  · exact lw_hd d n t T l5 l6 hn hi hT hR h0 42 1268 hv (by decide +kernel) _ (am_v_mono (fun _ _ _ _ z => Or.inl z) (lw_c42 d n t T l5 l6 hn hi hT hR))
  · exact lw_hd d n t T l5 l6 hn hi hT hR h0 43 1281 hv (by decide +kernel) _ (am_v_mono (fun _ _ _ _ z => Or.inl z) (lw_c43 d n t T l5 l6 hn hi hT hR))
  · exact lw_hd d n t T l5 l6 hn hi hT hR h0 44 1330 hv (by decide +kernel) _ (am_v_mono (fun _ _ _ _ z => Or.inr z) (lw_c44a d n t T l5 l6 hn hi hT hR))
  · exact lw_hd d n t T l5 l6 hn hi hT hR h0 45 1422 hv (by decide +kernel) _ (am_v_mono (fun _ _ _ _ z => Or.inl z) (lw_c45 d n t T l5 l6 hn hi hT hR))
  · exact lw_hd d n t T l5 l6 hn hi hT hR h0 46 1471 hv (by decide +kernel) _ (am_v_mono (fun _ _ _ _ z => Or.inl z) (lw_c46 d n t T l5 l6 hn hi hT hR))
  · exact lw_hd d n t T l5 l6 hn hi hT hR h0 47 1524 hv (by decide +kernel) _ (am_v_mono (fun _ _ _ _ z => Or.inl z) (lw_c47 d n t T l5 l6 hn hi hT hR))
