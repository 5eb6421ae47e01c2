/-- StoneSecrets$Law.copyFrom(LStoneSecrets$Law;)V -/
theorem s_lawCopy (d : Nat) (n L : Nat) {μ : am_M2} (ν : am_N2) (hL : μ 24 2 = nI L) (hLL : L ≤ 1000) : ∃ (μ' : am_M2), am_run (d + 1) 55 [.ref 13, .ref 24] (am_hp n μ ν) = some (none, am_hp n μ' ν) ∧ μ' 13 2 = nI L ∧ (∀ j, j < L → μ' 14 j = μ 25 j) ∧ ∀ i k, ¬ (i = 13 ∧ k = 2) → i ≠ 14 → μ' i k = μ i k := by
  have key : ∃ r, am_run (d + 1) 55 [.ref 13, .ref 24] (am_hp n μ ν) = some r ∧ ∃ (μ' : am_M2), r = (none, am_hp n μ' ν) ∧ μ' 13 2 = nI L ∧ (∀ j, j < L → μ' 14 j = μ 25 j) ∧ ∀ i k, ¬ (i = 13 ∧ k = 2) → i ≠ 14 → μ' i k = μ i k := am_run_wE (k := 55) (d := d + 0) rfl rfl (Nat.le_of_ble_eq_true rfl) [some (.ref 13), some (.ref 24)] rfl (by
    refine am_q_aload_n rfl rfl ?_
    refine am_q_aload_n rfl rfl ?_
    refine am_q_gi rfl rfl rfl hL ?_
    refine am_q_pi rfl rfl rfl (Or.inl rfl) ?_
    refine am_q_aload_n rfl rfl ?_
    refine am_q_gr rfl rfl rfl ?_
    refine am_q_iconst (v := nI 0) rfl rfl ?_
    refine am_q_aload_n rfl rfl ?_
    refine am_q_gr rfl rfl rfl ?_
    refine am_q_iconst (v := nI 0) rfl rfl ?_
    refine am_q_aload_n rfl rfl ?_
    refine am_q_gi rfl rfl rfl am_up_eq ?_
    refine am_q_copy rfl rfl rfl (by omega) (by omega) (by omega) (by decide) (Nat.le_of_ble_eq_true rfl) ?_
    refine am_q_return rfl rfl ?_
    refine ⟨_, rfl, ?_, fun j hj => ?_, fun i k z1 z2 => ?_⟩
    · unfold am_rw; rw [if_neg (by decide)]; exact am_up_eq
    · unfold am_rw; rw [if_pos rfl]; exact (if_pos hj).trans (am_up_ne (by omega))
    · unfold am_rw; rw [if_neg z2]; exact am_up_ne (by omega))
  obtain ⟨r, h1, μ', h2, h3⟩ := key
  exact ⟨μ', by rw [h1, h2], h3⟩

def vcF (μ μ' : am_M2) (L : Nat) : Prop := μ' 13 2 = nI L ∧ (∀ j, j < L → μ' 14 j = μ 25 j) ∧ (μ' 5 8 = μ 16 8 ∧ μ' 5 9 = μ 16 9 ∧ μ' 5 10 = μ 16 10 ∧ μ' 5 11 = μ 16 11) ∧ ∀ i k, i ≠ 5 → i ≠ 13 → i ≠ 14 → μ' i k = μ i k
theorem s_vcB (d n L : Nat) {μ : am_M2} {ν : am_N2} (hL : μ 24 2 = nI L) (hLL : L ≤ 1000) (h12 : μ 16 12 = nI 0 ∨ μ 16 12 = nI 1) : am_w (d + 1) (Option.none : Option FieldType) am_g54 105 [some (.ref 5), some (.ref 16)] [] (am_hp n μ ν) (fun y => ∃ μ', y = (none, am_hp n μ' ν) ∧ vcF μ μ' L) := by
  refine am_q_aload_n rfl rfl ?_
  refine am_q_gr rfl rfl rfl ?_
  refine am_q_aload_n rfl rfl ?_
  refine am_q_gr rfl rfl rfl ?_
  obtain ⟨μ1, hc1, e1, e2, e3⟩ := s_lawCopy d n L ν hL hLL
  refine am_q_call rfl rfl (hc1) rfl ?_
  refine am_q_aload_n rfl rfl ?_
  refine am_q_aload_n rfl rfl ?_
  refine am_q_gi rfl rfl rfl (e3 16 8 (by omega) (by omega)) ?_
  refine am_q_pi rfl rfl rfl (Or.inl rfl) ?_
  refine am_q_aload_n rfl rfl ?_
  refine am_q_aload_n rfl rfl ?_
  refine am_q_gi rfl rfl rfl ((am_up_ne (by omega)).trans (e3 16 9 (by omega) (by omega))) ?_
  refine am_q_pi rfl rfl rfl (Or.inl rfl) ?_
  refine am_q_aload_n rfl rfl ?_
  refine am_q_aload_n rfl rfl ?_
  refine am_q_gi rfl rfl rfl ((am_up_ne (by omega)).trans ((am_up_ne (by omega)).trans (e3 16 10 (by omega) (by omega)))) ?_
  refine am_q_pi rfl rfl rfl (Or.inl rfl) ?_
  refine am_q_aload_n rfl rfl ?_
  refine am_q_aload_n rfl rfl ?_
  refine am_q_gi rfl rfl rfl ((am_up_ne (by omega)).trans ((am_up_ne (by omega)).trans ((am_up_ne (by omega)).trans (e3 16 11 (by omega) (by omega))))) ?_
  refine am_q_pi rfl rfl rfl (Or.inl rfl) ?_
  refine am_q_aload_n rfl rfl ?_
  refine am_q_aload_n rfl rfl ?_
  refine am_q_gi rfl rfl rfl ((am_up_ne (by omega)).trans ((am_up_ne (by omega)).trans ((am_up_ne (by omega)).trans ((am_up_ne (by omega)).trans (e3 16 12 (by omega) (by omega)))))) ?_
  refine am_q_pi rfl rfl rfl (Or.inr ⟨rfl, h12⟩) ?_
  refine am_q_return rfl rfl ?_
  have g : ∀ i k, i ≠ 5 → am_up (am_up (am_up (am_up (am_up μ1 5 8 (μ 16 8)) 5 9 (μ 16 9)) 5 10 (μ 16 10)) 5 11 (μ 16 11)) 5 12 (μ 16 12) i k = μ1 i k := fun i k z => by rw [am_up_ne (by omega), am_up_ne (by omega), am_up_ne (by omega), am_up_ne (by omega), am_up_ne (by omega)]
  refine ⟨_, rfl, (g 13 2 (by decide)).trans e1, fun j hj => (g 14 j (by decide)).trans (e2 j hj), ⟨?_, ?_, ?_, ?_⟩, fun i k z1 z2 z3 => (g i k z1).trans (e3 i k (by omega) z3)⟩
  · exact (am_up_ne (by omega)).trans ((am_up_ne (by omega)).trans ((am_up_ne (by omega)).trans ((am_up_ne (by omega)).trans am_up_eq)))
  · exact (am_up_ne (by omega)).trans ((am_up_ne (by omega)).trans ((am_up_ne (by omega)).trans am_up_eq))
  · exact (am_up_ne (by omega)).trans ((am_up_ne (by omega)).trans am_up_eq)
  · exact (am_up_ne (by omega)).trans am_up_eq

/-- StoneSecrets$Valley.copyFrom(LStoneSecrets$Valley;)V -/
theorem s_valCopy (d : Nat) (n L : Nat) {μ : am_M2} {ν : am_N2} (hL : μ 24 2 = nI L) (hLL : L ≤ 1000) (h12 : μ 16 12 = nI 0 ∨ μ 16 12 = nI 1) : ∃ (μ' : am_M2) (ν' : am_N2), am_run (d + 2) 54 [.ref 5, .ref 16] (am_hp n μ ν) = some (none, am_hp n μ' ν') ∧ ((∀ s, s < 6 → μ' 7 s = μ 18 s ∧ μ' 8 s = μ 19 s ∧ μ' 9 s = μ 20 s ∧ μ' 10 s = μ 21 s ∧ μ' 11 s = μ 22 s) ∧ (∀ j, j < 12 → μ' 12 j = μ 23 j) ∧ μ' 13 2 = nI L ∧ (∀ j, j < L → μ' 14 j = μ 25 j) ∧ (μ' 5 8 = μ 16 8 ∧ μ' 5 9 = μ 16 9 ∧ μ' 5 10 = μ 16 10 ∧ μ' 5 11 = μ 16 11) ∧ (∀ i k, i < 5 ∨ 15 ≤ i → μ' i k = μ i k) ∧ (∀ s, s < 6 → ν' 6 s = ν 17 s) ∧ ∀ i k, i ≠ 6 → ν' i k = ν i k) := by
  have key : ∃ r, am_run (d + 2) 54 [.ref 5, .ref 16] (am_hp n μ ν) = some r ∧ ∃ (μ' : am_M2) (ν' : am_N2), r = (none, am_hp n μ' ν') ∧ ((∀ s, s < 6 → μ' 7 s = μ 18 s ∧ μ' 8 s = μ 19 s ∧ μ' 9 s = μ 20 s ∧ μ' 10 s = μ 21 s ∧ μ' 11 s = μ 22 s) ∧ (∀ j, j < 12 → μ' 12 j = μ 23 j) ∧ μ' 13 2 = nI L ∧ (∀ j, j < L → μ' 14 j = μ 25 j) ∧ (μ' 5 8 = μ 16 8 ∧ μ' 5 9 = μ 16 9 ∧ μ' 5 10 = μ 16 10 ∧ μ' 5 11 = μ 16 11) ∧ (∀ i k, i < 5 ∨ 15 ≤ i → μ' i k = μ i k) ∧ (∀ s, s < 6 → ν' 6 s = ν 17 s) ∧ ∀ i k, i ≠ 6 → ν' i k = ν i k) := am_run_wE (k := 54) (d := d + 1) rfl rfl (Nat.le_of_ble_eq_true rfl) [some (.ref 5), some (.ref 16)] rfl (by
    refine am_q_aload_n rfl rfl ?_
    refine am_q_gr rfl rfl rfl ?_
    refine am_q_iconst (v := nI 0) rfl rfl ?_
    refine am_q_aload_n rfl rfl ?_
    refine am_q_gr rfl rfl rfl ?_
    refine am_q_iconst (v := nI 0) rfl rfl ?_
    refine am_q_bipush (v := nI 6) rfl rfl ?_
    refine am_q_copyL rfl rfl rfl (by decide) (by decide) (by decide) (by decide) (Nat.le_of_ble_eq_true rfl) ?_
    refine am_q_aload_n rfl rfl ?_
    refine am_q_gr rfl rfl rfl ?_
    refine am_q_iconst (v := nI 0) rfl rfl ?_
    refine am_q_aload_n rfl rfl ?_
    refine am_q_gr rfl rfl rfl ?_
    refine am_q_iconst (v := nI 0) rfl rfl ?_
    refine am_q_bipush (v := nI 6) rfl rfl ?_
    refine am_q_copy rfl rfl rfl (by decide) (by decide) (by decide) (by decide) (Nat.le_of_ble_eq_true rfl) ?_
    refine am_q_aload_n rfl rfl ?_
    refine am_q_gr rfl rfl rfl ?_
    refine am_q_iconst (v := nI 0) rfl rfl ?_
    refine am_q_aload_n rfl rfl ?_
    refine am_q_gr rfl rfl rfl ?_
    refine am_q_iconst (v := nI 0) rfl rfl ?_
    refine am_q_bipush (v := nI 6) rfl rfl ?_
    refine am_q_copy rfl rfl rfl (by decide) (by decide) (by decide) (by decide) (Nat.le_of_ble_eq_true rfl) ?_
    refine am_q_aload_n rfl rfl ?_
    refine am_q_gr rfl rfl rfl ?_
    refine am_q_iconst (v := nI 0) rfl rfl ?_
    refine am_q_aload_n rfl rfl ?_
    refine am_q_gr rfl rfl rfl ?_
    refine am_q_iconst (v := nI 0) rfl rfl ?_
    refine am_q_bipush (v := nI 6) rfl rfl ?_
    refine am_q_copy rfl rfl rfl (by decide) (by decide) (by decide) (by decide) (Nat.le_of_ble_eq_true rfl) ?_
    refine am_q_aload_n rfl rfl ?_
    refine am_q_gr rfl rfl rfl ?_
    refine am_q_iconst (v := nI 0) rfl rfl ?_
    refine am_q_aload_n rfl rfl ?_
    refine am_q_gr rfl rfl rfl ?_
    refine am_q_iconst (v := nI 0) rfl rfl ?_
    refine am_q_bipush (v := nI 6) rfl rfl ?_
    refine am_q_copy rfl rfl rfl (by decide) (by decide) (by decide) (by decide) (Nat.le_of_ble_eq_true rfl) ?_
    refine am_q_aload_n rfl rfl ?_
    refine am_q_gr rfl rfl rfl ?_
    refine am_q_iconst (v := nI 0) rfl rfl ?_
    refine am_q_aload_n rfl rfl ?_
    refine am_q_gr rfl rfl rfl ?_
    refine am_q_iconst (v := nI 0) rfl rfl ?_
    refine am_q_bipush (v := nI 6) rfl rfl ?_
    refine am_q_copy rfl rfl rfl (by decide) (by decide) (by decide) (by decide) (Nat.le_of_ble_eq_true rfl) ?_
    refine am_q_aload_n rfl rfl ?_
    refine am_q_gr rfl rfl rfl ?_
    refine am_q_iconst (v := nI 0) rfl rfl ?_
    refine am_q_aload_n rfl rfl ?_
    refine am_q_gr rfl rfl rfl ?_
    refine am_q_iconst (v := nI 0) rfl rfl ?_
    refine am_q_bipush (v := nI 12) rfl rfl ?_
    refine am_q_copy rfl rfl rfl (by decide) (by decide) (by decide) (by decide) (Nat.le_of_ble_eq_true rfl) ?_
    refine am_w_mono (fun y hy => ?_) (s_vcB d n L (by simp [am_rw]; exact hL) hLL (by simp [am_rw]; exact h12))
    obtain ⟨μ', rfl, e1, e2, e3, e4⟩ := hy
    refine ⟨_, _, rfl, fun s hs => ⟨?_, ?_, ?_, ?_, ?_⟩, fun j hj => ?_, e1, fun j hj => ?_, e3, fun i k z => ?_, fun s hs => ?_, fun i k z => ?_⟩
    · rw [e4 7 s (by decide) (by decide) (by decide)]; simp [am_rw, hs]
    · rw [e4 8 s (by decide) (by decide) (by decide)]; simp [am_rw, hs]
    · rw [e4 9 s (by decide) (by decide) (by decide)]; simp [am_rw, hs]
    · rw [e4 10 s (by decide) (by decide) (by decide)]; simp [am_rw, hs]
    · rw [e4 11 s (by decide) (by decide) (by decide)]; simp [am_rw, hs]
    · rw [e4 12 j (by decide) (by decide) (by decide)]; simp [am_rw, hj]
    · rw [e2 j hj]; simp [am_rw]
    · rw [e4 i k (by omega) (by omega) (by omega)]
      simp only [am_rw]
      rw [if_neg (by omega), if_neg (by omega), if_neg (by omega), if_neg (by omega), if_neg (by omega), if_neg (by omega)]
    · simp [am_rwL, hs]
    · unfold am_rwL; rw [if_neg z])
  obtain ⟨r, h1, μ', ν', h2, h3⟩ := key
  exact ⟨μ', ν', by rw [h1, h2], h3⟩

theorem lord_and : ∀ m, m < 64 → ∀ s, s < 6 → nI m &&& (nI (2 ^ s) ^^^ -1) = nI (m &&& (63 - 2 ^ s)) := by decide +kernel
theorem lord_tb : ∀ s, s < 6 → ∀ o, o < 6 → (63 - 2 ^ s).testBit o = decide (o ≠ s) := by decide +kernel
theorem lord_bits (f : Nat → Bool) (N s : Nat) (hN : N ≤ 6) (hs : s < 6) : sBits f N &&& (63 - 2 ^ s) = sBits (fun o => decide (o ≠ s) && f o) N := by
  refine Nat.eq_of_testBit_eq (fun o => ?_)
  rw [Nat.testBit_and, sBits_tb, sBits_tb]
  by_cases h : o < N
  · rw [lord_tb s hs o (by omega), decide_eq_true h, Bool.true_and, Bool.true_and, Bool.and_comm]
  · rw [decide_eq_false h, Bool.false_and, Bool.false_and, Bool.false_and]
theorem lgV_Fo {μ : am_M2} {ν : am_N2} {D : dft} (hD : xDf μ ν D) (hO : dOk D) (s : Nat) (hs : s < vN D.1) : lgV μ (vN D.1) s = nI (vFo D.1 s) := by
  have h6 := hO.1.1
  have K : ∀ o, o < vN D.1 → (μ 18 o = nI 3 ↔ vK D.1 o = 3) := fun o ho => by
    rw [(hD.2.1 o ho).1]
    have := (hO.2.1 o ho).1
    exact nI_eq (by omega) (by omega)
  unfold lgV vFo
  by_cases h3 : vK D.1 s = 3
  · rw [if_pos ((K s hs).mpr h3), hD.2.2.1 s (by omega), lord_and _ (Nat.lt_of_lt_of_le (sBits_lt _ _) (Nat.pow_le_pow_right (by decide) h6)) s (by omega), lord_bits _ _ _ h6 (by omega)]
    rw [sn_or]
    congr 2
    refine sBits_cong _ (fun o ho => ?_)
    show (decide (o ≠ s) && decide (μ 18 o = nI 3)) = _
    rw [decide_eq_true h3, Bool.and_true, decide_eq_decide.mpr (K o ho)]
  · rw [if_neg (fun z => h3 ((K s hs).mp z)), hD.2.2.1 s (by omega)]
    have e : sBits (fun o => decide (o ≠ s) && decide (vK D.1 s = 3) && decide (vK D.1 o = 3)) (vN D.1) = 0 := by
      refine Nat.eq_of_testBit_eq (fun o => ?_)
      rw [sBits_tb, decide_eq_false h3, Bool.and_false, Bool.false_and, Bool.and_false, Nat.zero_testBit]
    rw [e, Nat.or_zero]
theorem dG_vOk {D : dft} (h : dG D) : vOk D.1 := by
  refine ⟨⟨h.1.1.1, h.1.1.2.1, h.1.1.2.2.1, h.2.1⟩, fun s hs => ⟨(h.1.2.1 s hs).1, (h.1.2.1 s hs).2.1, (h.1.2.1 s hs).2.2.1, ?_⟩, h.1.2.2.2, fun s o hs ho => ⟨?_, ?_⟩⟩
  · refine Nat.lt_pow_two_of_testBit _ (fun o ho => ?_)
    cases hb : (vH D.1 s).testBit o with
    | false => rfl
    | true => have := (h.2.2.1 s o hb).2.1; omega
  · cases hb : (vH D.1 s).testBit o with
    | true => rw [(h.2.2.1 s o hb).2.2.2]
    | false =>
      cases hc : (vH D.1 o).testBit s with
      | false => rfl
      | true => rw [(h.2.2.1 o s hc).2.2.2] at hb; cases hb
  · cases hb : (vH D.1 s).testBit s with
    | false => rfl
    | true => exact absurd rfl (h.2.2.1 s s hb).2.2.1