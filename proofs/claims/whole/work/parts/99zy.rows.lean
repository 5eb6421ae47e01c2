/-- row 0 is the script: kept -/
def rw0 (n : Nat) (μ : am_M2) (y : am_R) : Prop := ∃ r μ' ν', y = (r, am_hp n μ' ν') ∧ ∀ k, μ' 0 k = μ 0 k
theorem n_vlW (d : Nat) (n : Nat) {X : tTp} {μ : am_M2} (ν : am_N2) (hX : tpOk X) (hT : xTp μ X) (hL : xLg ν) : am_w (d + 45) (Option.some FieldType.int) am_g13 0 [some (.ref 2), none] [] (am_hp n μ ν) (rw0 n μ) := by
  refine am_q_aload_n rfl rfl ?_
  refine am_q_gr rfl rfl rfl ?_
  obtain ⟨μ1, ν1, hc1, hT1, hf1, hl1⟩ := s_open (d + 40) n ν hX hT hL
  refine am_q_call rfl rfl (hc1) rfl ?_
  refine am_q_aload_n rfl rfl ?_
  refine am_q_gr rfl rfl rfl ?_
  refine am_q_aload_n rfl rfl ?_
  refine am_q_gr rfl rfl rfl ?_
  obtain ⟨y, hy, hq⟩ := s_read d n ν1 hX hT1 (xLg_S hl1 hL)
  cases hr : pRd X 1000 0 d0 with
  | inl c =>
    rw [hr] at hq
    obtain ⟨μ2, ν2, rfl, b1, b2, b3⟩ := hq
    refine am_q_call rfl rfl hy rfl ?_
    refine am_w_mono (fun y hy => ?_) (x_vlA d n c b1)
    rw [hy]
    exact ⟨_, _, _, rfl, fun k => (am_up_ne (by omega)).trans ((b2 0 k (by omega) (by omega)).trans (hf1 0 k (by omega)))⟩
  | inr E =>
    rw [hr] at hq
    obtain ⟨μ2, ν2, rfl, b1, b2, b3⟩ := hq
    have hG := pRd_g hX 1000 0 d0 E d0_g (Nat.zero_le _) hr
    refine am_q_call rfl rfl hy rfl ?_
    refine am_w_mono (fun y hy => ?_) (x_vlB d n (vL E.1).length ((lgF_18 μ2 _ _ 24 2 (by decide)).trans b1.2.2.2.2.1) hG.2.1.2.1 (by rw [lgF_18 μ2 _ _ 16 12 (by decide), b1.1.2.2.2.2]; cases E.2.2 <;> first | exact Or.inl rfl | exact Or.inr rfl))
    obtain ⟨μ3, ν3, rfl, hv⟩ := hy
    obtain ⟨f1, f2, f3, f4, f5, f6, f7, -, hfr⟩ := hv
    exact ⟨_, _, _, rfl, fun k => (hfr 0 k (by omega) (by omega) (by omega) (by omega) (by omega) (by omega)).trans ((lgF_18 μ2 _ _ 0 k (by decide)).trans ((b2 0 k (by omega) (by omega)).trans (hf1 0 k (by omega))))⟩

theorem n_valley (d : Nat) (n : Nat) {X : tTp} {μ : am_M2} (ν : am_N2) (hX : tpOk X) (hT : xTp μ X) (hL : xLg ν) : ∃ y, am_run (d + 46) 13 [.ref 2] (am_hp n μ ν) = some y ∧ rw0 n μ y := am_run_wE (k := 13) (d := d + 45) rfl rfl (Nat.le_of_ble_eq_true rfl) [some (.ref 2), none] rfl (n_vlW d n ν hX hT hL)
theorem n_yrW (d : Nat) (n : Nat) {X : tTp} {V : sVal} {nm : Nat → Nat} {μ : am_M2} (ν : am_N2) (hX : tpOk X) (hT : xTp μ X) (hL : xLg ν) (hV : xVal μ V) (hn : ∀ s, s < vN V → ν 6 s = lN (nm s) ∧ nm s < 2 ^ 63) : am_w (d + 8) (Option.some FieldType.int) am_g58 0 [some (.ref 2), none] [] (am_hp n μ ν) (rw0 n μ) := by
  refine am_q_aload_n rfl rfl ?_
  refine am_q_gr rfl rfl rfl ?_
  obtain ⟨μ1, ν1, hc1, hT1, hf1, hl1⟩ := s_open (d + 3) n ν hX hT hL
  refine am_q_call rfl rfl (hc1) rfl ?_
  refine am_q_aload_n rfl rfl ?_
  refine am_q_gr rfl rfl rfl ?_
  refine am_q_aload_n rfl rfl ?_
  refine am_q_gr rfl rfl rfl ?_
  refine am_q_aload_n rfl rfl ?_
  refine am_q_gr rfl rfl rfl ?_
  obtain ⟨y, hy, hq⟩ := s_yread d n ν1 hX hT1 (xLg_S hl1 hL) (xVal_Y (frY_3 hf1) hV) (fun s hs => ⟨(hl1 6 s (by omega)).trans (hn s hs).1, (hn s hs).2⟩)
  cases hr : pYr X V nm 1000 0 y0 with
  | inl c =>
    rw [hr] at hq
    obtain ⟨μ2, ν2, rfl, b1, b2, b3⟩ := hq
    refine am_q_call rfl rfl hy rfl ?_
    refine am_w_mono (fun y hy => ?_) (x_yrA d n c b1)
    rw [hy]
    exact ⟨_, _, _, rfl, fun k => (am_up_ne (by omega)).trans ((b2 0 k (by omega) (by omega)).trans (hf1 0 k (by omega)))⟩
  | inr Z =>
    rw [hr] at hq
    obtain ⟨μ2, ν2, rfl, b1, b2, b3⟩ := hq
    refine am_q_call rfl rfl hy rfl ?_
    refine am_w_mono (fun y hy => ?_) (x_yrB d n)
    obtain ⟨μ3, rfl, e1, e2, e3, e4⟩ := hy
    exact ⟨_, _, _, rfl, fun k => (e4 0 k (by omega) (by omega)).trans ((b2 0 k (by omega) (by omega)).trans (hf1 0 k (by omega)))⟩

theorem n_year (d : Nat) (n : Nat) {X : tTp} {V : sVal} {nm : Nat → Nat} {μ : am_M2} (ν : am_N2) (hX : tpOk X) (hT : xTp μ X) (hL : xLg ν) (hV : xVal μ V) (hn : ∀ s, s < vN V → ν 6 s = lN (nm s) ∧ nm s < 2 ^ 63) : ∃ y, am_run (d + 9) 58 [.ref 2] (am_hp n μ ν) = some y ∧ rw0 n μ y := am_run_wE (k := 58) (d := d + 8) rfl rfl (Nat.le_of_ble_eq_true rfl) [some (.ref 2), none] rfl (n_yrW d n ν hX hT hL hV hn)