/-- StoneSecrets$Year.copyFrom(LStoneSecrets$Year;)V -/
theorem s_yCopy (d : Nat) (n : Nat) {μ : am_M2} (ν : am_N2) : ∃ (μ' : am_M2), am_run (d + 1) 62 [.ref 27, .ref 31] (am_hp n μ ν) = some (none, am_hp n μ' ν) ∧ (μ' 27 3 = μ 31 3 ∧ (∀ j, j < 40 → μ' 28 j = μ 32 j ∧ μ' 29 j = μ 33 j ∧ μ' 30 j = μ 34 j) ∧ ∀ i k, ¬ (27 ≤ i ∧ i ≤ 30) → μ' i k = μ i k) := by
  have key : ∃ r, am_run (d + 1) 62 [.ref 27, .ref 31] (am_hp n μ ν) = some r ∧ ∃ (μ' : am_M2), r = (none, am_hp n μ' ν) ∧ (μ' 27 3 = μ 31 3 ∧ (∀ j, j < 40 → μ' 28 j = μ 32 j ∧ μ' 29 j = μ 33 j ∧ μ' 30 j = μ 34 j) ∧ ∀ i k, ¬ (27 ≤ i ∧ i ≤ 30) → μ' i k = μ i k) := am_run_wE (k := 62) (d := d + 0) rfl rfl (Nat.le_of_ble_eq_true rfl) [some (.ref 27), some (.ref 31)] rfl (by
    refine am_q_aload_n rfl rfl ?_
    refine am_q_gr rfl rfl rfl ?_
    refine am_q_iconst (v := nI 0) rfl rfl ?_
    refine am_q_aload_n rfl rfl ?_
    refine am_q_gr rfl rfl rfl ?_
    refine am_q_iconst (v := nI 0) rfl rfl ?_
    refine am_q_bipush (v := nI 40) rfl rfl ?_
    refine am_q_copy rfl rfl rfl (by decide) (by decide) (by decide) (by decide) (Nat.le_of_ble_eq_true rfl) ?_
    refine am_q_aload_n rfl rfl ?_
    refine am_q_gr rfl rfl rfl ?_
    refine am_q_iconst (v := nI 0) rfl rfl ?_
    refine am_q_aload_n rfl rfl ?_
    refine am_q_gr rfl rfl rfl ?_
    refine am_q_iconst (v := nI 0) rfl rfl ?_
    refine am_q_bipush (v := nI 40) rfl rfl ?_
    refine am_q_copy rfl rfl rfl (by decide) (by decide) (by decide) (by decide) (Nat.le_of_ble_eq_true rfl) ?_
    refine am_q_aload_n rfl rfl ?_
    refine am_q_gr rfl rfl rfl ?_
    refine am_q_iconst (v := nI 0) rfl rfl ?_
    refine am_q_aload_n rfl rfl ?_
    refine am_q_gr rfl rfl rfl ?_
    refine am_q_iconst (v := nI 0) rfl rfl ?_
    refine am_q_bipush (v := nI 40) rfl rfl ?_
    refine am_q_copy rfl rfl rfl (by decide) (by decide) (by decide) (by decide) (Nat.le_of_ble_eq_true rfl) ?_
    refine am_q_aload_n rfl rfl ?_
    refine am_q_aload_n rfl rfl ?_
    refine am_q_gi rfl rfl rfl rfl ?_
    refine am_q_pi rfl rfl rfl (Or.inl rfl) ?_
    refine am_q_return rfl rfl ?_
    refine ⟨_, rfl, ?_, fun j hj => ⟨?_, ?_, ?_⟩, fun i k z => ?_⟩
    · simp [am_rw, am_up]
    · simp [am_rw, am_up, hj]
    · simp [am_rw, am_up, hj]
    · simp [am_rw, am_up, hj]
    · rw [am_up_ne (by omega)]
      simp only [am_rw]
      rw [if_neg (by omega), if_neg (by omega), if_neg (by omega)])
  obtain ⟨r, h1, μ', h2, h3⟩ := key
  exact ⟨μ', by rw [h1, h2], h3⟩

def yrR (r : Nat ⊕ sYear) : Nat := match r with
  | .inl c => c
  | .inr _ => 0
def yrrQ (n : Nat) (V : sVal) (W : sWall) (U : List sWall) (K : Nat → Option (sWall × sSeen)) (S : sSeen) (Y : sYear) (μ : am_M2) (ν : am_N2) (r : Nat ⊕ sYear) (y : am_R) : Prop := ∃ μ' ν', y = (some (.int (nI (yrR r))), am_hp n μ' ν') ∧ μ' 3 1 = nI 0 ∧ (∀ i k, 119 < i → μ' i k = μ i k) ∧ frKL ν ν' ∧ xR μ' V W U K S (match r with | .inl _ => Y | .inr Z => Z)
theorem xR_Y {V : sVal} {W : sWall} {U : List sWall} {K : Nat → Option (sWall × sSeen)} {S : sSeen} {Y Y' : sYear} {μ μ' : am_M2} (h : ∀ i k, ¬ i = 3 → ¬ (27 ≤ i ∧ i ≤ 34) → μ' i k = μ i k) (hY : xYear μ' Y') (hR : xR μ V W U K S Y) : xR μ' V W U K S Y' := by
  obtain ⟨hV, hW, ⟨x, hx, h4, h5, hl, hu⟩, ⟨hk1, hk2⟩, hS, -⟩ := hR
  have g : ∀ i, ¬ i = 3 → ¬ (27 ≤ i ∧ i ≤ 34) → μ' i = μ i := fun i a b => by funext k; exact h i k a b
  refine ⟨xVal_rows (fun i a b => g i (by omega) (by omega)) hV, xW_rows (fun i a b => g i (by omega) (by omega)) hW, ⟨x, hx, by rw [g 41 (by omega) (by omega)]; exact h4, by rw [g 41 (by omega) (by omega)]; exact h5, hl, fun j hj => xW_rows (fun i a b => g i (by omega) (by omega)) (hu j hj)⟩, ⟨by rw [g 41 (by omega) (by omega)]; exact hk1, fun m hm w s e => ?_⟩, xSeen_rows (fun i a b => g i (by omega) (by omega)) hS, hY⟩
  obtain ⟨a, b⟩ := hk2 m hm w s e
  exact ⟨xW_rows (fun i a b => g i (by omega) (by omega)) a, xSeen_rows (fun i a b => g i (by omega) (by omega)) b⟩
theorem x_yrA (d n c : Nat) {μ : am_M2} {ν : am_N2} (h7 : μ 3 7 = nI c) : am_w (d + 8) (Option.some FieldType.int) am_g58 22 [some (.ref 2), none] [.int (sB false)] (am_hp n μ ν) (fun y => y = (some (.int (nI c)), am_hp n (am_up μ 3 1 (nI 0)) ν)) := by
  refine am_q_istore_n [some _, some _] rfl (Nat.le_of_ble_eq_true rfl) rfl ?_
  refine am_q_aload_n rfl rfl ?_
  refine am_q_gr rfl rfl rfl ?_
  refine am_q_call rfl rfl (s_empty _ n μ ν) rfl ?_
  refine am_q_iload_n rfl rfl ?_
  refine am_q_if_neB rfl (fun c_31 => by simp at c_31) (fun c_31 => ?_)
  refine am_q_aload_n rfl rfl ?_
  refine am_q_gr rfl rfl rfl ?_
  refine am_q_gi rfl rfl rfl ((am_up_ne (by omega)).trans h7) ?_
  refine am_q_ireturn rfl rfl rfl ?_
  rfl

theorem x_yrB (d n : Nat) {μ : am_M2} {ν : am_N2} : am_w (d + 8) (Option.some FieldType.int) am_g58 22 [some (.ref 2), none] [.int (sB true)] (am_hp n μ ν) (fun y => ∃ μ', y = (some (.int (nI 0)), am_hp n μ' ν) ∧ μ' 3 1 = nI 0 ∧ μ' 27 3 = μ 31 3 ∧ (∀ j, j < 40 → μ' 28 j = μ 32 j ∧ μ' 29 j = μ 33 j ∧ μ' 30 j = μ 34 j) ∧ ∀ i k, i ≠ 3 → ¬ (27 ≤ i ∧ i ≤ 30) → μ' i k = μ i k) := by
  refine am_q_istore_n [some _, some _] rfl (Nat.le_of_ble_eq_true rfl) rfl ?_
  refine am_q_aload_n rfl rfl ?_
  refine am_q_gr rfl rfl rfl ?_
  refine am_q_call rfl rfl (s_empty _ n μ ν) rfl ?_
  refine am_q_iload_n rfl rfl ?_
  refine am_q_if_neB rfl (fun c_31 => ?_) (fun c_31 => by simp at c_31)
  refine am_q_aload_n rfl rfl ?_
  refine am_q_gr rfl rfl rfl ?_
  refine am_q_aload_n rfl rfl ?_
  refine am_q_gr rfl rfl rfl ?_
  obtain ⟨μ2, hc2, f1, f2, f3⟩ := s_yCopy (d + 7) n (μ := am_up μ 3 1 (nI 0)) ν
  refine am_q_call rfl rfl (hc2) rfl ?_
  refine am_q_iconst (v := nI 0) rfl rfl ?_
  refine am_q_ireturn rfl rfl rfl ?_
  refine ⟨_, rfl, (f3 3 1 (by omega)).trans am_up_eq, f1.trans (am_up_ne (by omega)), fun j hj => ?_, fun i k a b => (f3 i k b).trans (am_up_ne (by omega))⟩
  obtain ⟨a, b, c⟩ := f2 j hj
  exact ⟨a.trans (am_up_ne (by omega)), b.trans (am_up_ne (by omega)), c.trans (am_up_ne (by omega))⟩

theorem x_yrW (d : Nat) (n : Nat) {X : tTp} {V : sVal} {nm : Nat → Nat} {W : sWall} {U : List sWall} {K : Nat → Option (sWall × sSeen)} {S : sSeen} {Y : sYear} {μ : am_M2} (ν : am_N2) (hX : tpOk X) (hT : xTp μ X) (hL : xLg ν) (hR : xR μ V W U K S Y) (hn : ∀ s, s < vN V → ν 6 s = lN (nm s) ∧ nm s < 2 ^ 63) : am_w (d + 8) (Option.some FieldType.int) am_g58 0 [some (.ref 2), none] [] (am_hp n μ ν) (yrrQ n V W U K S Y μ ν (pYr X V nm 1000 0 y0)) := by
  refine am_q_aload_n rfl rfl ?_
  refine am_q_gr rfl rfl rfl ?_
  obtain ⟨μ1, ν1, hc1, hT1, hf1, hl1⟩ := s_open (d + 3) n ν hX hT hL
  refine am_q_call rfl rfl (hc1) rfl ?_
  refine am_q_aload_n rfl rfl ?_
  refine am_q_gr rfl rfl rfl ?_
  refine am_q_aload_n rfl rfl ?_
  refine am_q_gr rfl rfl rfl ?_
  refine am_q_aload_n rfl rfl ?_
  refine am_q_gr rfl rfl rfl ?_
  obtain ⟨y, hy, hq⟩ := s_yread d n ν1 hX hT1 (xLg_S hl1 hL) (xVal_Y (frY_3 hf1) hR.1) (fun s hs => ⟨(hl1 6 s (by omega)).trans (hn s hs).1, (hn s hs).2⟩)
  cases hr : pYr X V nm 1000 0 y0 with
  | inl c =>
    rw [hr] at hq
    obtain ⟨μ2, ν2, rfl, b1, b2, b3⟩ := hq
    refine am_q_call rfl rfl hy rfl ?_
    refine am_w_mono (fun y hy => ?_) (x_yrA d n c b1)
    rw [hy]
    have g : ∀ i k, ¬ i = 3 → ¬ (31 ≤ i ∧ i ≤ 34) → am_up μ2 3 1 (nI 0) i k = μ i k := fun i k z1 z2 => (am_up_ne (by omega)).trans ((b2 i k (by omega) z2).trans (hf1 i k (by omega)))
    obtain ⟨hy1, hy2, hy3⟩ := hR.2.2.2.2.2
    exact ⟨_, _, rfl, am_up_eq, fun i k z => g i k (by omega) (by omega), frKL_tr hl1 b3, xR_Y (fun i k z1 z2 => g i k z1 (by omega)) ⟨(g 27 3 (by omega) (by omega)).trans hy1, hy2, fun i hi => by rw [g 28 i (by omega) (by omega), g 29 i (by omega) (by omega), g 30 i (by omega) (by omega)]; exact hy3 i hi⟩ hR⟩
  | inr Z =>
    rw [hr] at hq
    obtain ⟨μ2, ν2, rfl, b1, b2, b3⟩ := hq
    have hG := pYr_g hR.1.1.2.2.2 1000 0 y0 Z (y0_ok V) (Nat.zero_le _) hr
    refine am_q_call rfl rfl hy rfl ?_
    refine am_w_mono (fun y hy => ?_) (x_yrB d n)
    obtain ⟨μ3, rfl, e1, e2, e3, e4⟩ := hy
    have g : ∀ i k, ¬ i = 3 → ¬ (27 ≤ i ∧ i ≤ 34) → μ3 i k = μ i k := fun i k z1 z2 => (e4 i k z1 (by omega)).trans ((b2 i k (by omega) (by omega)).trans (hf1 i k (by omega)))
    have h40 := hG.1
    refine ⟨_, _, rfl, e1, fun i k z => g i k (by omega) (by omega), frKL_tr hl1 b3, xR_Y g ⟨e2.trans b1.1, h40, fun i hi => ?_⟩ hR⟩
    have hi' : i < Z.1 := hi
    obtain ⟨a, b, c⟩ := e3 i (by omega)
    rw [a, b, c]; exact b1.2 i hi'

/-- StoneSecrets.year()I -/
theorem x_year (d : Nat) (n : Nat) {X : tTp} {V : sVal} {nm : Nat → Nat} {W : sWall} {U : List sWall} {K : Nat → Option (sWall × sSeen)} {S : sSeen} {Y : sYear} {μ : am_M2} (ν : am_N2) (hX : tpOk X) (hT : xTp μ X) (hL : xLg ν) (hR : xR μ V W U K S Y) (hn : ∀ s, s < vN V → ν 6 s = lN (nm s) ∧ nm s < 2 ^ 63) : ∃ y, am_run (d + 9) 58 [.ref 2] (am_hp n μ ν) = some y ∧ yrrQ n V W U K S Y μ ν (pYr X V nm 1000 0 y0) y := am_run_wE (k := 58) (d := d + 8) rfl rfl (Nat.le_of_ble_eq_true rfl) [some (.ref 2), none] rfl (x_yrW d n ν hX hT hL hR hn)