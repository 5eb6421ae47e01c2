def s0 : sSeen := (0, fun _ => 0, fun _ => 0, fun _ => false)
def y0 : sYear := (0, fun _ => 0, fun _ => 0, fun _ => 0)
def k0 : Nat → Option (sWall × sSeen) := fun _ => none
/-- the names of the valley that stands -/
def xNm (ν : am_N2) (V : sVal) (nm : Nat → Nat) : Prop := ∀ s, s < vN V → ν 6 s = lN (nm s)
def vlR (X : tTp) : Nat := match pRd X 1000 0 d0 with
  | .inl c => c
  | .inr _ => 0
def vlyQ (X : tTp) (n : Nat) (μ : am_M2) (ν : am_N2) (r : Nat ⊕ dft) (y : am_R) : Prop := match r with
  | .inl c => ∃ μ' ν', y = (some (.int (nI c)), am_hp n μ' ν') ∧ μ' 3 1 = nI 0 ∧ (∀ i k, i ≠ 3 → ¬ (16 ≤ i ∧ i ≤ 26) → μ' i k = μ i k) ∧ frVL ν ν'
  | .inr E => ∃ μ' ν', y = (some (.int (nI 0)), am_hp n μ' ν') ∧ μ' 3 1 = nI 0 ∧ dG E ∧ xR μ' E.1 w0 [] k0 s0 y0 ∧ xNm ν' E.1 E.2.1 ∧ (∀ i k, 119 < i → μ' i k = μ i k) ∧ ∀ i k, i ≠ 3 → i ≠ 6 → i ≠ 17 → ν' i k = ν i k
theorem x_vlC {X : tTp} {n : Nat} {V : sVal} {W : sWall} {U : List sWall} {K : Nat → Option (sWall × sSeen)} {S : sSeen} {Y : sYear} {μ μ1 μ2 : am_M2} {ν ν2 ν' : am_N2} {E : dft} {μ' : am_M2} (hR : xR μ V W U K S Y) (hD : xDf μ1 ν2 E) (hG : dG E) (hf : frVd μ μ1) (hl : frVL ν ν2) (e2 : μ2 = am_rw μ1 22 (lgF μ1 (vN E.1) (vN E.1))) (hv : vlF μ2 μ' ν2 ν' (vL E.1).length) : vlyQ X n μ ν (.inr E) (some (.int (nI 0)), am_hp n μ' ν') := by
  obtain ⟨f1, f2, f3, f4, f5, f6, f7, ⟨h31, h27, h117, h415, h413, hw⟩, hfr⟩ := hv
  have hO := hG.1
  have h6 := hO.1.1
  have u : ∀ i k, i ≠ 22 → μ2 i k = μ1 i k := fun i k z => by rw [e2]; exact lgF_18 μ1 _ _ i k z
  obtain ⟨hV, hW, hU, hK, hS, hY⟩ := hR
  have q : ∀ i k, 35 ≤ i → ¬ (i = 117 ∧ k = 3) → ¬ (35 ≤ i ∧ i < 38) → ¬ (i = 41 ∧ (k = 5 ∨ k = 3)) → μ' i k = μ i k := fun i k z0 z1 z2 z3 => (hfr i k (by omega) (by omega) (by omega) z1 z2 z3).trans ((u i k (by omega)).trans (hf i k (by omega) (by omega)))
  refine ⟨_, _, rfl, h31, hG, ⟨⟨⟨?_, h6, ?_, hO.1.2.1⟩, ?_, ?_, fun s hs => ?_, fun j hj => ?_, fun _ => ⟨?_, fun j hj => ?_⟩⟩, hw, ?_, ⟨?_, fun m hm w s e => (by cases e)⟩, ⟨h117, Nat.zero_le _, fun i hi => absurd hi (Nat.not_lt_zero _), ?_⟩, h27, Nat.zero_le _, fun i hi => absurd hi (Nat.not_lt_zero _)⟩, fun s hs => ?_, fun i k z => q i k (by omega) (by omega) (by omega) (by omega), fun i k z1 z2 z3 => (f7 i k z2).trans (hl i k (by omega) z3)⟩
  · exact f5.2.1.trans ((u 16 9 (by decide)).trans hD.1.2.1)
  · exact f5.1.trans ((u 16 8 (by decide)).trans hD.1.1)
  · exact f5.2.2.1.trans ((u 16 10 (by decide)).trans hD.1.2.2.1)
  · exact f5.2.2.2.trans ((u 16 11 (by decide)).trans hD.1.2.2.2.1)
  · obtain ⟨a1, a2, a3, a4, a5⟩ := f1 s (by omega)
    obtain ⟨b1, b2, b3, b4, b5⟩ := hD.2.1 s hs
    refine ⟨a1.trans ((u 18 s (by decide)).trans b1), a2.trans ((u 19 s (by decide)).trans b2), a3.trans ((u 20 s (by decide)).trans b3), a4.trans ((u 21 s (by decide)).trans b4), a5.trans ?_⟩
    rw [e2, ← lgV_Fo hD hO s hs]
    unfold am_rw lgF
    rw [if_pos rfl]
    exact if_pos hs
  · have := hO.1.2.2.1
    exact (f2 j (by omega)).trans ((u 23 j (by decide)).trans (hD.2.2.2.1 j hj))
  · exact f3
  · exact (f4 j hj).trans ((u 25 j (by decide)).trans (hD.2.2.2.2.2 j hj))
  · obtain ⟨x, hx, hx4, -⟩ := hU
    exact ⟨x, hx, (q 41 4 (by decide) (by omega) (by omega) (by omega)).trans hx4, h415, Nat.zero_le _, fun j hj => absurd hj (Nat.not_lt_zero _)⟩
  · exact h413
  · obtain ⟨x, hx, hx2, -⟩ := hS.2.2.2
    exact ⟨x, hx, (q 117 2 (by decide) (by omega) (by omega) (by omega)).trans hx2, fun i hi => absurd hi (Nat.not_lt_zero _)⟩
  · exact (f6 s (by omega)).trans (hD.2.1 s hs).2.2.2.2
theorem x_vlW (d : Nat) (n : Nat) {X : tTp} {V : sVal} {W : sWall} {U : List sWall} {K : Nat → Option (sWall × sSeen)} {S : sSeen} {Y : sYear} {μ : am_M2} (ν : am_N2) (hX : tpOk X) (hT : xTp μ X) (hL : xLg ν) (hR : xR μ V W U K S Y) : am_w (d + 45) (Option.some FieldType.int) am_g13 0 [some (.ref 2), none] [] (am_hp n μ ν) (vlyQ X n μ ν (pRd X 1000 0 d0)) := by
  refine am_q_aload_n rfl rfl ?_
  refine am_q_gr rfl rfl rfl ?_
  obtain ⟨μ1, ν1, hc1, hT1, hf1, hl1⟩ := s_open (d + 40) n ν hX hT hL
  refine am_q_call rfl rfl (hc1) rfl ?_
  refine am_q_aload_n rfl rfl ?_
  refine am_q_gr rfl rfl rfl ?_
  refine am_q_aload_n rfl rfl ?_
  refine am_q_gr rfl rfl rfl ?_
  obtain ⟨y, hy, hq⟩ := s_read d n ν1 hX hT1 (xLg_S hl1 hL)
  cases hr : pRd X 1000 0 d0 with
  | inl c =>
    rw [hr] at hq
    obtain ⟨μ2, ν2, rfl, b1, b2, b3⟩ := hq
    refine am_q_call rfl rfl hy rfl ?_
    refine am_w_mono (fun y hy => ?_) (x_vlA d n c b1)
    rw [hy]
    exact ⟨_, _, rfl, am_up_eq, fun i k z1 z2 => (am_up_ne (by omega)).trans ((b2 i k (by omega) z2).trans (hf1 i k (by omega))), frVL_tr (frVL_3 hl1) b3⟩
  | inr E =>
    rw [hr] at hq
    obtain ⟨μ2, ν2, rfl, b1, b2, b3⟩ := hq
    have hG := pRd_g hX 1000 0 d0 E d0_g (Nat.zero_le _) hr
    refine am_q_call rfl rfl hy rfl ?_
    refine am_w_mono (fun y hy => ?_) (x_vlB d n (vL E.1).length ((lgF_18 μ2 _ _ 24 2 (by decide)).trans b1.2.2.2.2.1) hG.2.1.2.1 (by rw [lgF_18 μ2 _ _ 16 12 (by decide), b1.1.2.2.2.2]; cases E.2.2 <;> first | exact Or.inl rfl | exact Or.inr rfl))
    obtain ⟨μ3, ν3, rfl, hv⟩ := hy
    exact x_vlC hR b1 hG (frVd_tr (frVd_3 hf1) b2) (frVL_tr (frVL_3 hl1) b3) rfl hv

/-- StoneSecrets.valley()I -/
theorem x_valley (d : Nat) (n : Nat) {X : tTp} {V : sVal} {W : sWall} {U : List sWall} {K : Nat → Option (sWall × sSeen)} {S : sSeen} {Y : sYear} {μ : am_M2} (ν : am_N2) (hX : tpOk X) (hT : xTp μ X) (hL : xLg ν) (hR : xR μ V W U K S Y) : ∃ y, am_run (d + 46) 13 [.ref 2] (am_hp n μ ν) = some y ∧ vlyQ X n μ ν (pRd X 1000 0 d0) y := am_run_wE (k := 13) (d := d + 45) rfl rfl (Nat.le_of_ble_eq_true rfl) [some (.ref 2), none] rfl (x_vlW d n ν hX hT hL hR)