theorem x_vlA (d n c : Nat) {μ : am_M2} {ν : am_N2} (h7 : μ 3 7 = nI c) : am_w (d + 45) (Option.some FieldType.int) am_g13 18 [some (.ref 2), none] [.int (sB false)] (am_hp n μ ν) (fun y => y = (some (.int (nI c)), am_hp n (am_up μ 3 1 (nI 0)) ν)) := by
  refine am_q_istore_n [some _, some _] rfl (Nat.le_of_ble_eq_true rfl) rfl ?_
  refine am_q_aload_n rfl rfl ?_
  refine am_q_gr rfl rfl rfl ?_
  refine am_q_call rfl rfl (s_empty _ n μ ν) rfl ?_
  refine am_q_iload_n rfl rfl ?_
  refine am_q_if_neB rfl (fun c_27 => by simp at c_27) (fun c_27 => ?_)
  refine am_q_aload_n rfl rfl ?_
  refine am_q_gr rfl rfl rfl ?_
  refine am_q_gi rfl rfl rfl ((am_up_ne (by omega)).trans h7) ?_
  refine am_q_ireturn rfl rfl rfl ?_
  rfl

def vlF (μ μ' : am_M2) (ν ν' : am_N2) (L : Nat) : Prop := ((∀ s, s < 6 → μ' 7 s = μ 18 s ∧ μ' 8 s = μ 19 s ∧ μ' 9 s = μ 20 s ∧ μ' 10 s = μ 21 s ∧ μ' 11 s = μ 22 s) ∧ (∀ j, j < 12 → μ' 12 j = μ 23 j) ∧ μ' 13 2 = nI L ∧ (∀ j, j < L → μ' 14 j = μ 25 j) ∧ (μ' 5 8 = μ 16 8 ∧ μ' 5 9 = μ 16 9 ∧ μ' 5 10 = μ 16 10 ∧ μ' 5 11 = μ 16 11) ∧ (∀ s, s < 6 → ν' 6 s = ν 17 s) ∧ (∀ i k, i ≠ 6 → ν' i k = ν i k) ∧ (μ' 3 1 = nI 0 ∧ μ' 27 3 = nI 0 ∧ μ' 117 3 = nI 0 ∧ μ' 41 5 = nI 0 ∧ μ' 41 3 = nI 0 ∧ xWall μ' 35 w0) ∧ (∀ i k, ¬ (i = 3 ∧ k = 1) → ¬ (5 ≤ i ∧ i < 15) → ¬ (i = 27 ∧ k = 3) → ¬ (i = 117 ∧ k = 3) → ¬ (35 ≤ i ∧ i < 38) → ¬ (i = 41 ∧ (k = 5 ∨ k = 3)) → μ' i k = μ i k))
theorem x_vlB (d n L : Nat) {μ : am_M2} {ν : am_N2} (hL : μ 24 2 = nI L) (hLL : L ≤ 1000) (h12 : μ 16 12 = nI 0 ∨ μ 16 12 = nI 1) : am_w (d + 45) (Option.some FieldType.int) am_g13 18 [some (.ref 2), none] [.int (sB true)] (am_hp n μ ν) (fun y => ∃ μ' ν', y = (some (.int (nI 0)), am_hp n μ' ν') ∧ vlF μ μ' ν ν' L) := by
  refine am_q_istore_n [some _, some _] rfl (Nat.le_of_ble_eq_true rfl) rfl ?_
  refine am_q_aload_n rfl rfl ?_
  refine am_q_gr rfl rfl rfl ?_
  refine am_q_call rfl rfl (s_empty _ n μ ν) rfl ?_
  refine am_q_iload_n rfl rfl ?_
  refine am_q_if_neB rfl (fun c_27 => ?_) (fun c_27 => by simp at c_27)
  refine am_q_aload_n rfl rfl ?_
  refine am_q_gr rfl rfl rfl ?_
  refine am_q_aload_n rfl rfl ?_
  refine am_q_gr rfl rfl rfl ?_
  obtain ⟨μ2, ν2, hc2, f1, f2, f3, f4, f5, f6, f7, f8⟩ := s_valCopy (d + 43) n L (μ := am_up μ 3 1 (nI 0)) (ν := ν) ((am_up_ne (by omega)).trans hL) hLL (by rw [am_up_ne (by omega)]; exact h12)
  refine am_q_call rfl rfl (hc2) rfl ?_
  refine am_q_aload_n rfl rfl ?_
  refine am_q_gr rfl rfl rfl ?_
  refine am_q_iconst (v := nI 0) rfl rfl ?_
  refine am_q_pi rfl rfl rfl (Or.inl rfl) ?_
  refine am_q_aload_n rfl rfl ?_
  refine am_q_gr rfl rfl rfl ?_
  refine am_q_iconst (v := nI 0) rfl rfl ?_
  refine am_q_pi rfl rfl rfl (Or.inl rfl) ?_
  refine am_q_aload_n rfl rfl ?_
  refine am_q_gr rfl rfl rfl ?_
  obtain ⟨μ3, hc3, g1, g2⟩ := s_begin35 (d + 43) n (μ := am_up (am_up μ2 27 3 (nI 0)) 117 3 (nI 0)) ν2
  refine am_q_call rfl rfl (hc3) rfl ?_
  refine am_q_aload_n rfl rfl ?_
  refine am_q_gr rfl rfl rfl ?_
  refine am_q_call rfl rfl (s_forgetAll _ n μ3 ν2) rfl ?_
  refine am_q_iconst (v := nI 0) rfl rfl ?_
  refine am_q_ireturn rfl rfl rfl ?_
  have q0 : ∀ i k, ¬ (i = 27 ∧ k = 3) → ¬ (i = 117 ∧ k = 3) → ¬ (35 ≤ i ∧ i < 38) → ¬ (i = 41 ∧ (k = 5 ∨ k = 3)) → am_up (am_up μ3 41 5 (nI 0)) 41 3 (nI 0) i k = μ2 i k := fun i k z1 z2 z3 z4 => by rw [am_up_ne (by omega), am_up_ne (by omega), g2 i (by omega), am_up_ne (by omega), am_up_ne (by omega)]
  have u : ∀ i k, ¬ (i = 3 ∧ k = 1) → am_up μ 3 1 (nI 0) i k = μ i k := fun i k z => am_up_ne (by omega)
  refine ⟨_, _, rfl, fun s hs => ?_, fun j hj => ?_, ?_, fun j hj => ?_, ⟨?_, ?_, ?_, ?_⟩, f7, f8, ⟨?_, ?_, ?_, ?_, am_up_eq, ?_⟩, fun i k z1 z2 z3 z4 z5 z6 => ?_⟩
  · rw [q0 7 s (by omega) (by omega) (by omega) (by omega), q0 8 s (by omega) (by omega) (by omega) (by omega), q0 9 s (by omega) (by omega) (by omega) (by omega), q0 10 s (by omega) (by omega) (by omega) (by omega), q0 11 s (by omega) (by omega) (by omega) (by omega)]
    obtain ⟨a, b, c, e, f⟩ := f1 s hs
    exact ⟨a.trans (u 18 s (by omega)), b.trans (u 19 s (by omega)), c.trans (u 20 s (by omega)), e.trans (u 21 s (by omega)), f.trans (u 22 s (by omega))⟩
  · rw [q0 12 j (by omega) (by omega) (by omega) (by omega)]; exact (f2 j hj).trans (u 23 j (by omega))
  · rw [q0 13 2 (by omega) (by omega) (by omega) (by omega)]; exact f3
  · rw [q0 14 j (by omega) (by omega) (by omega) (by omega)]; exact (f4 j hj).trans (u 25 j (by omega))
  · rw [q0 5 8 (by omega) (by omega) (by omega) (by omega)]; exact f5.1.trans (u 16 8 (by omega))
  · rw [q0 5 9 (by omega) (by omega) (by omega) (by omega)]; exact f5.2.1.trans (u 16 9 (by omega))
  · rw [q0 5 10 (by omega) (by omega) (by omega) (by omega)]; exact f5.2.2.1.trans (u 16 10 (by omega))
  · rw [q0 5 11 (by omega) (by omega) (by omega) (by omega)]; exact f5.2.2.2.trans (u 16 11 (by omega))
  · rw [q0 3 1 (by omega) (by omega) (by omega) (by omega), f6 3 1 (by omega)]; exact am_up_eq
  · rw [am_up_ne (by omega), am_up_ne (by omega), g2 27 (by omega), am_up_ne (by omega)]; exact am_up_eq
  · rw [am_up_ne (by omega), am_up_ne (by omega), g2 117 (by omega)]; exact am_up_eq
  · rw [am_up_ne (by omega)]; exact am_up_eq
  · exact xW_rows (fun i a b => by funext k; rw [am_up_ne (by omega), am_up_ne (by omega)]) g1
  · rw [q0 i k z3 z4 z5 z6, f6 i k (by omega), u i k z1]
