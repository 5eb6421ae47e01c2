theorem m_vA (d n : Nat) {μ : am_M2} {ν : am_N2} (hF : μ 133 8 = nI 0) (Q : am_R → Prop) (K : am_w (d + 34) (Option.some FieldType.int) am_g184 66 [some (.ref 133), some (.int (nI 0))] [] (am_hp n μ ν) Q) : am_w (d + 34) (Option.some FieldType.int) am_g184 52 [some (.ref 133), none] [] (am_hp n μ ν) (Q) := by
  refine am_q_aload_n rfl rfl ?_
  refine am_q_gi rfl rfl rfl hF ?_
  refine am_q_zleN rfl (by omega) (fun c_56 => ?_) (fun c_56 => absurd c_56 (by omega))
  refine am_q_iconst (v := nI 0) rfl rfl ?_
  refine am_q_istore_n [some _, some _] rfl (Nat.le_of_ble_eq_true rfl) rfl ?_
  exact K

theorem m_vB (d n : Nat) {μ : am_M2} {ν : am_N2} (Q : am_R → Prop) (K : am_w (d + 34) (Option.some FieldType.int) am_g184 95 [some (.ref 133), some (.int (nI 0))] [] (am_hp n μ ν) Q) : am_w (d + 34) (Option.some FieldType.int) am_g184 93 [some (.ref 133), some (.int (nI 50))] [] (am_hp n μ ν) (Q) := by
  refine am_q_iconst (v := nI 0) rfl rfl ?_
  refine am_q_istore_n [some _, some _] rfl (Nat.le_of_ble_eq_true rfl) rfl ?_
  exact K

theorem m_vC (d n C : Nat) {μ : am_M2} {ν : am_N2} (Q : am_R → Prop) (K : am_w (d + 34) (Option.some FieldType.int) am_g184 127 [some (.ref 133), some (.int (nI 0))] [] (am_hp n μ ν) Q) : am_w (d + 34) (Option.some FieldType.int) am_g184 125 [some (.ref 133), some (.int (nI C))] [] (am_hp n μ ν) (Q) := by
  refine am_q_iconst (v := nI 0) rfl rfl ?_
  refine am_q_istore_n [some _, some _] rfl (Nat.le_of_ble_eq_true rfl) rfl ?_
  exact K

def vbQ (n : Nat) (μ : am_M2) (ν : am_N2) (y : am_R) : Prop := ∃ μ', y = (some (.int (nI 0)), am_hp n μ' ν) ∧ (mWall μ' 0 w0 ∧ μ' 145 13 = nI 0 ∧ μ' 142 0 = nI 0 ∧ μ' 133 18 = nI 0 ∧ (∀ t, t < 4 → μ' 146 t = nI 0) ∧ ∀ a b, a ≠ 142 → a ≠ 143 → a ≠ 144 → a ≠ 145 → a ≠ 146 → ¬ (a = 133 ∧ b = 18) → μ' a b = μ a b)
theorem m_vD (d n : Nat) {μ : am_M2} {ν : am_N2} : am_w (d + 34) (Option.some FieldType.int) am_g184 154 [some (.ref 133), some (.int (nI 6))] [] (am_hp n μ ν) (vbQ n μ ν) := by
  refine am_q_aload_n rfl rfl ?_
  obtain ⟨μ1, hc1, hf⟩ := m_begins (d + 32) n (μ := μ) ν
  refine am_q_call rfl rfl (hc1) rfl ?_
  refine am_q_iconst (v := nI 0) rfl rfl ?_
  refine am_q_ireturn rfl rfl rfl ?_
  exact ⟨_, rfl, hf⟩

def frRL (ν ν' : am_N2) : Prop := ∀ a b, a ≠ 137 → ¬ (a = 141 ∧ 6 ≤ b) → ν' a b = ν a b
def mvlQ (n : Nat) (μ : am_M2) (ν : am_N2) (r : Nat ⊕ dft) (y : am_R) : Prop := match r with
  | .inl c => ∃ μ' ν', y = (some (.int (nI c)), am_hp n μ' ν') ∧ μ' 133 2 = nI 0 ∧ frRd μ μ' ∧ frRL ν ν'
  | .inr E => ∃ μ' ν', y = (some (.int (nI 0)), am_hp n μ' ν') ∧ μ' 133 2 = nI 0 ∧ mR μ' E.1 w0 [] k0 s0 y0 ∧ mNmR ν' 0 E.2.1 (vN E.1) ∧ (∀ i k, i < 133 → μ' i k = μ i k) ∧ ∀ a b, a ≠ 137 → a ≠ 141 → ν' a b = ν a b
theorem mR_made {μ μA μB μ' : am_M2} {E : dft} {ν : am_N2} (hG : dG E) (hD : mDf μ ν E) (hA : ∀ t, t < 50 → μA 139 t = μ 139 (50 + t)) (hA2 : ∀ a b, ¬ (a = 139 ∧ b < 50) → μA a b = μ a b) {C : Nat} (hC : μ 133 12 = nI C) (hC2 : C ≤ 1100) (hB : ∀ t, t < C → μB 140 t = μA 140 (1100 + t)) (hB2 : ∀ a b, ¬ (a = 140 ∧ b < 1100) → μB a b = μA a b) (hW : mWall μ' 0 w0 ∧ μ' 145 13 = nI 0 ∧ μ' 142 0 = nI 0 ∧ μ' 133 18 = nI 0 ∧ (∀ t, t < 4 → μ' 146 t = nI 0) ∧ ∀ a b, a ≠ 142 → a ≠ 143 → a ≠ 144 → a ≠ 145 → a ≠ 146 → ¬ (a = 133 ∧ b = 18) → μ' a b = μB a b) : mR μ' E.1 w0 [] k0 s0 y0 := by
  obtain ⟨h1, h2, h3, h4, h5, h6⟩ := hW
  have hO := hG.1
  have hN := hO.1.1
  have hFq := hO.1.2.2.1
  have hm : mF E.1 ≤ 12 := by unfold mF; split <;> omega
  obtain ⟨⟨a1, a2, a3, a4, a5⟩, b1, b2, b3, b4, b5⟩ := hD
  have g : ∀ t, t < 50 → μ' 139 t = μ 139 (50 + t) := fun t ht => (h6 139 t (by omega) (by omega) (by omega) (by omega) (by omega) (by omega)).trans ((hB2 139 t (by omega)).trans (hA t ht))
  have gc : ∀ t, t < C → μ' 140 t = μ 140 (1100 + t) := fun t ht => (h6 140 t (by omega) (by omega) (by omega) (by omega) (by omega) (by omega)).trans ((hB t ht).trans (hA2 140 _ (by omega)))
  refine ⟨⟨(g 0 (by omega)).trans a1, (g 1 (by omega)).trans a2, (g 2 (by omega)).trans a3, (g 3 (by omega)).trans a4, fun s hs => ?_, fun j hj => ?_, ?_⟩, h1, ⟨h4, by decide, fun j hj => absurd hj (Nat.not_lt_zero _)⟩, fun m hm => ⟨h5 m hm, fun w s e => by cases e⟩, ⟨h2, by decide, fun i hi => absurd hi (Nat.not_lt_zero _)⟩, ⟨h3, by decide, fun i hi => absurd hi (Nat.not_lt_zero _)⟩⟩
  · obtain ⟨c1, c2, c3⟩ := b1 s hs
    have e1 := g (5 + 3 * s) (by omega)
    have e2 := g (5 + 3 * s + 1) (by omega)
    have e3 := g (5 + 3 * s + 2) (by omega)
    have e4 := g (23 + s) (by omega)
    rw [show 50 + (5 + 3 * s) = 55 + 3 * s by omega] at e1
    rw [show 50 + (5 + 3 * s + 1) = 55 + 3 * s + 1 by omega] at e2
    rw [show 50 + (5 + 3 * s + 2) = 55 + 3 * s + 2 by omega] at e3
    rw [show 50 + (23 + s) = 73 + s by omega] at e4
    exact ⟨e1.trans c1, e2.trans c2, e3.trans c3, e4.trans (b2 s (by omega))⟩
  · have e := g (29 + j) (by omega)
    rw [show 50 + (29 + j) = 79 + j by omega] at e
    exact e.trans (b3 j hj)
  · rcases b4 with ⟨-, c1, c2, -⟩ | ⟨-, c1, c2, c3, c4⟩
    · exact Or.inl ⟨(g 4 (by omega)).trans c1, c2⟩
    · have hl := hG.2.1.2.1
      have eC : C = (vL E.1).length + 1 := (sn_eq (by omega) (by omega)).mp (hC.symm.trans c4)
      refine Or.inr ⟨0, by omega, (g 4 (by omega)).trans c1, fun j hj => ?_, ?_⟩
      · rw [Nat.zero_add]; exact (gc j (by omega)).trans (c2 j hj)
      · rw [Nat.zero_add]; exact (gc _ (by omega)).trans c3
theorem m_vaK {d n : Nat} {X : tTp} {μ0 μ : am_M2} {ν0 ν : am_N2} (hT : μ 133 2 = nI 0) (hf : frRd μ0 μ) (hl : frCuL ν0 ν) (r : Nat ⊕ dft) : mvK X n d μ ν (mvlQ n μ0 ν0 r) r := by
  unfold mvK
  cases r with
  | inl c =>
    intro μ' ν' h8 hc hc2 f1 f2
    refine am_w_mono (fun y hy => ?_) (m_vaX d n c hc hc2 h8)
    rw [hy]
    exact ⟨μ', ν', rfl, (f1 133 2 (by omega) (by omega) (by omega)).trans hT, fun a b z1 z2 z3 z4 z5 => (f1 a b (by omega) (by omega) (by omega)).trans (hf a b z1 z2 z3 z4 z5), fun a b z1 z2 => (f2 a b z2).trans (hl a b z1)⟩
  | inr E =>
    intro μ' ν' h8 hD hG f1 f2
    have hlen := hG.2.1.2.1
    obtain ⟨C, hC, hC2⟩ : ∃ C, μ' 133 12 = nI C ∧ C ≤ 1100 := by
      rcases hD.2.2.2.2.1 with ⟨-, -, -, e⟩ | ⟨-, -, -, -, e⟩
      · exact ⟨0, e, by omega⟩
      · exact ⟨_, e, by omega⟩
    refine m_vA d n h8 _ ?_
    refine m_vcA d n ν' _ (fun μA hA hA2 => ?_) 50 0 μ' (by omega) ⟨fun t ht => absurd ht (Nat.not_lt_zero _), fun _ _ _ => rfl⟩
    refine m_vB d n _ ?_
    refine m_vcB d n C hC2 ν' ((hA2 133 12 (by omega)).trans hC) _ (fun μB hB hB2 => ?_) C 0 μA (by omega) ⟨fun t ht => absurd ht (Nat.not_lt_zero _), fun _ _ _ => rfl⟩
    refine m_vC d n C _ ?_
    refine m_vcC d n μB _ (fun νC hN hN2 => ?_) 6 0 ν' (by omega) ⟨fun t ht => absurd ht (Nat.not_lt_zero _), fun _ _ _ => rfl⟩
    refine am_w_mono (fun y hy => ?_) (m_vD d n)
    obtain ⟨μE, rfl, hW⟩ := hy
    have hWf := hW.2.2.2.2.2
    refine ⟨μE, νC, rfl, ?_, mR_made hG hD hA hA2 hC hC2 hB hB2 hW, ⟨fun s hs => ?_, hD.2.2.2.2.2.2⟩, fun i k hi => ?_, fun a b z1 z2 => ?_⟩
    · exact (hWf 133 2 (by omega) (by omega) (by omega) (by omega) (by omega) (by omega)).trans ((hB2 133 2 (by omega)).trans ((hA2 133 2 (by omega)).trans ((f1 133 2 (by omega) (by omega) (by omega)).trans hT)))
    · have h6 := hG.1.1.1
      have e := (hD.2.2.2.2.2.1 s hs)
      rw [Nat.zero_add]
      exact ⟨(hN s (by omega)).trans e.1, e.2⟩
    · exact (hWf i k (by omega) (by omega) (by omega) (by omega) (by omega) (by omega)).trans ((hB2 i k (by omega)).trans ((hA2 i k (by omega)).trans ((f1 i k (by omega) (by omega) (by omega)).trans (hf i k (by omega) (by omega) (by omega) (by omega) (by omega)))))
    · exact (hN2 a b (by omega)).trans ((f2 a b (by omega)).trans (hl a b z1))
theorem m_vlyW (d n : Nat) {X : tTp} {μ : am_M2} {ν : am_N2} (hX : tpOk X) (hT : mTp μ X) (hL : mLg ν) : am_w (d + 34) (Option.some FieldType.int) am_g184 0 [some (.ref 133), none] [] (am_hp n μ ν) (mvlQ n μ ν (pRd X 1000 0 d0)) := by
  refine am_q_aload_n rfl rfl ?_
  refine am_q_iconst (v := nI 0) rfl rfl ?_
  refine am_q_pi rfl rfl rfl (Or.inl rfl) ?_
  refine am_q_aload_n rfl rfl ?_
  obtain ⟨y, hy, hq⟩ := m_cut (d + 30) n (X := X) (μ := am_up μ 133 0 (nI 0)) (ν := ν) hX ⟨(am_up_ne (by omega)).trans hT.1, fun j hj => (am_up_ne (by omega)).trans (hT.2 j hj)⟩
  obtain ⟨μ1, ν1, rfl, q1, q2, q3, q4, q5, q6⟩ := hq
  refine am_q_call rfl rfl (hy) rfl ?_
  refine am_q_aload_n rfl rfl ?_
  refine am_q_iconst (v := nI 0) rfl rfl ?_
  refine am_q_pi rfl rfl rfl (Or.inl rfl) ?_
  refine am_q_aload_n rfl rfl ?_
  refine am_q_bipush (v := nI 50) rfl rfl ?_
  obtain ⟨μ3, hc3, e1, e2, e3, e4⟩ := m_always (d + 33) n (μ := am_up μ1 133 12 (nI 0)) ν1
  refine am_q_call rfl rfl (hc3) rfl ?_
  have g : ∀ a b, ¬ (a = 139 ∧ 50 ≤ b) → ¬ (a = 133 ∧ b = 12) → μ3 a b = μ1 a b := fun a b z1 z2 => (e4 a b z1).trans (am_up_ne (by omega))
  have hP : mP μ3 ν1 X 0 := mP_c (μ := μ1) (ν := ν1) ⟨q1, fun r hr => (q6 138 r (by omega)).trans (hL r hr), q2, q3, Nat.zero_le _⟩ (fun k => ⟨g 135 k (by omega) (by omega), g 136 k (by omega) (by omega)⟩) (g 133 7 (by omega) (by omega)) (g 133 8 (by omega) (by omega)) (fun k => ⟨rfl, rfl⟩)
  have hN := tN_1k hX
  exact m_vaL d n hX _ 1000 0 d0 μ3 ν1 hP (mDf_0 e1 e2 e3 ((e4 133 12 (by omega)).trans am_up_eq)) d0_g (by omega) (m_vaK ((g 133 2 (by omega) (by omega)).trans q4) (fun a b z1 z2 z3 z4 z5 => (g a b (by omega) (by omega)).trans ((q5 a b (by omega) z2 z3).trans (am_up_ne (by omega)))) q6 _)

/-- the model's valley() -/
theorem m_valley (d n : Nat) {X : tTp} {μ : am_M2} {ν : am_N2} (hX : tpOk X) (hT : mTp μ X) (hL : mLg ν) : ∃ y, am_run (d + 35) 184 [.ref 133] (am_hp n μ ν) = some y ∧ mvlQ n μ ν (pRd X 1000 0 d0) y := am_run_wE (k := 184) (d := d + 34) rfl rfl (Nat.le_of_ble_eq_true rfl) [some (.ref 133), none] rfl (m_vlyW d n hX hT hL)