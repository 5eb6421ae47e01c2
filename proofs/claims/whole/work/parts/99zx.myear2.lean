theorem m_yrE (d n i C : Nat) (l2 l3 : Option Value) {X : tTp} {μ : am_M2} {ν : am_N2} (hX : tpOk X) (hP : mP μ ν X i) (Q : am_R → Prop) (hk : kd X i = 0) (K : am_w (d + 4) (Option.some FieldType.int) am_g214 154 [some (.ref 133), some (.int (nI C)), l2, l3] [] (am_hp n μ ν) Q) : am_w (d + 4) (Option.some FieldType.int) am_g214 11 [some (.ref 133), some (.int (nI C)), l2, l3] [] (am_hp n μ ν) (Q) := by
  have hN := tN_1k hX
  obtain ⟨hT, hG0, hA, hF, hi⟩ := hP
  obtain ⟨t1, t2, t3, t4, t5⟩ := hT i hi
  have hkc := mS_c (kd_le X i)
  refine am_q_aload_n rfl rfl ?_
  refine am_q_gi rfl rfl rfl hF ?_
  refine am_q_zneN rfl (by omega) (fun c_15 => absurd c_15 (by omega)) (fun c_15 => ?_)
  refine am_q_aload_n rfl rfl ?_
  refine am_q_gr rfl rfl rfl ?_
  refine am_q_aload_n rfl rfl ?_
  refine am_q_gi rfl rfl rfl hA ?_
  refine am_q_iald rfl rfl (am_ix_nI (show i < 1002 by omega) (by decide)) t1 ?_
  refine am_q_zeqN rfl (by omega) (fun c_27 => ?_) (fun c_27 => absurd (hkc.1.mpr hk) c_27)
  exact K

theorem m_yrN (d n i C : Nat) (l2 l3 : Option Value) {X : tTp} {μ : am_M2} {ν : am_N2} (hX : tpOk X) (hP : mP μ ν X i) (Q : am_R → Prop) (hk : ¬ kd X i = 0) (K : am_w (d + 4) (Option.some FieldType.int) am_g214 30 [some (.ref 133), some (.int (nI C)), l2, l3] [] (am_hp n μ ν) Q) : am_w (d + 4) (Option.some FieldType.int) am_g214 11 [some (.ref 133), some (.int (nI C)), l2, l3] [] (am_hp n μ ν) (Q) := by
  have hN := tN_1k hX
  obtain ⟨hT, hG0, hA, hF, hi⟩ := hP
  obtain ⟨t1, t2, t3, t4, t5⟩ := hT i hi
  have hkc := mS_c (kd_le X i)
  refine am_q_aload_n rfl rfl ?_
  refine am_q_gi rfl rfl rfl hF ?_
  refine am_q_zneN rfl (by omega) (fun c_15 => absurd c_15 (by omega)) (fun c_15 => ?_)
  refine am_q_aload_n rfl rfl ?_
  refine am_q_gr rfl rfl rfl ?_
  refine am_q_aload_n rfl rfl ?_
  refine am_q_gi rfl rfl rfl hA ?_
  refine am_q_iald rfl rfl (am_ix_nI (show i < 1002 by omega) (by decide)) t1 ?_
  refine am_q_zeqN rfl (by omega) (fun c_27 => absurd (hkc.1.mp c_27) hk) (fun c_27 => ?_)
  exact K

theorem m_yrX (d n c C : Nat) (l2 l3 : Option Value) {μ : am_M2} {ν : am_N2} (hc : 0 < c) (hc2 : c < 2 ^ 20) (hF : μ 133 8 = nI c) : am_w (d + 4) (Option.some FieldType.int) am_g214 154 [some (.ref 133), some (.int (nI C)), l2, l3] [] (am_hp n μ ν) (fun y => y = (some (.int (nI c)), am_hp n μ ν)) := by
  refine am_q_aload_n rfl rfl ?_
  refine am_q_gi rfl rfl rfl hF ?_
  refine am_q_zleN rfl (by omega) (fun c_158 => absurd c_158 (by omega)) (fun c_158 => ?_)
  refine am_q_aload_n rfl rfl ?_
  refine am_q_gi rfl rfl rfl hF ?_
  refine am_q_ireturn rfl rfl rfl ?_
  rfl

theorem m_yrF (d n c C : Nat) (l2 l3 : Option Value) {μ : am_M2} {ν : am_N2} (hc : 0 < c) (hc2 : c < 2 ^ 20) (hF : μ 133 8 = nI c) : am_w (d + 4) (Option.some FieldType.int) am_g214 11 [some (.ref 133), some (.int (nI C)), l2, l3] [] (am_hp n μ ν) (fun y => y = (some (.int (nI c)), am_hp n μ ν)) := by
  refine am_q_aload_n rfl rfl ?_
  refine am_q_gi rfl rfl rfl hF ?_
  refine am_q_zneN rfl (by omega) (fun c_15 => ?_) (fun c_15 => absurd c_15 (by omega))
  exact m_yrX d n c C l2 l3 hc hc2 hF

theorem m_yrG (d n c C : Nat) (l2 l3 : Option Value) {μ : am_M2} {ν : am_N2} (hc : 0 < c) (hc2 : c < 2 ^ 20) (hF : μ 133 8 = nI c) : am_w (d + 4) (Option.some FieldType.int) am_g214 145 [some (.ref 133), some (.int (nI C)), l2, l3] [] (am_hp n μ ν) (fun y => y = (some (.int (nI c)), am_hp n μ ν)) := by
  refine am_q_aload_n rfl rfl ?_
  refine am_q_bipush (v := nI 59) rfl rfl ?_
  refine am_q_call rfl rfl (m_takeSign1 (d + 2) 59 n c ν hc (by omega) hF) rfl ?_
  refine am_q_goto rfl ?_
  exact m_yrF d n c C l2 l3 hc hc2 hF

theorem m_yrS (d n i C : Nat) (l2 l3 : Option Value) {X : tTp} {μ : am_M2} {ν : am_N2} (hX : tpOk X) (hP : mP μ ν X i) (Q : am_R → Prop) (K : am_w (d + 4) (Option.some FieldType.int) am_g214 11 [some (.ref 133), some (.int (nI C)), l2, l3] [] (am_hp n (if isSg X i 59 = true then am_up μ 133 7 (nI (i + 1)) else am_up μ 133 8 (nI (wr X i 1))) ν) Q) : am_w (d + 4) (Option.some FieldType.int) am_g214 145 [some (.ref 133), some (.int (nI C)), l2, l3] [] (am_hp n μ ν) (Q) := by
  refine am_q_aload_n rfl rfl ?_
  refine am_q_bipush (v := nI 59) rfl rfl ?_
  obtain ⟨μ1, hc1, he1⟩ := m_takeSign0 (d + 2) 59 (by decide) n i ν hX hP
  subst he1
  refine am_q_call rfl rfl (hc1) rfl ?_
  refine am_q_goto rfl ?_
  exact K

theorem m_yrC (d n C : Nat) (hC : C ≤ 40) (l3 : Option Value) {μ : am_M2} (ν : am_N2) : ∀ (m j : Nat) (μ1 : am_M2), j + m = 3 * C → ((∀ t, t < j → μ1 142 (1 + t) = μ 142 (125 + t)) ∧ ∀ a b, ¬ (a = 142 ∧ 1 ≤ b ∧ b < 125) → μ1 a b = μ a b) → am_w (d + 4) (Option.some FieldType.int) am_g214 175 [some (.ref 133), some (.int (nI C)), some (.int (nI j)), l3] [] (am_hp n μ1 ν) (fun y => ∃ μ', y = (some (.int (nI 0)), am_hp n μ' ν) ∧ (∀ t, t < 3 * C → μ' 142 (1 + t) = μ 142 (125 + t)) ∧ ∀ a b, ¬ (a = 142 ∧ 1 ≤ b ∧ b < 125) → μ' a b = μ a b) := by
  intro m
  induction m with
  | zero =>
    intro j μ1 hj hinv
    refine am_q_iload_n rfl rfl ?_
    refine am_q_iconst (v := nI 3) rfl rfl ?_
    refine am_q_iload_n rfl rfl ?_
    refine am_q_imul rfl (pk_mul _ _) ?_
    refine am_q_igeN rfl (by omega) (by omega) (fun c_179 => ?_) (fun c_179 => absurd c_179 (by omega))
    refine am_q_iconst (v := nI 0) rfl rfl ?_
    refine am_q_ireturn rfl rfl rfl ?_
    exact ⟨_, rfl, fun t ht => hinv.1 t (by omega), hinv.2⟩
  | succ m ih =>
    intro j μ1 hj hinv
    refine am_q_iload_n rfl rfl ?_
    refine am_q_iconst (v := nI 3) rfl rfl ?_
    refine am_q_iload_n rfl rfl ?_
    refine am_q_imul rfl (pk_mul _ _) ?_
    refine am_q_igeN rfl (by omega) (by omega) (fun c_179 => absurd c_179 (by omega)) (fun c_179 => ?_)
    refine am_q_aload_n rfl rfl ?_
    refine am_q_gr rfl rfl rfl ?_
    refine am_q_iconst (v := nI 1) rfl rfl ?_
    refine am_q_iload_n rfl rfl ?_
    refine am_q_iadd rfl (nI_add _ _) ?_
    refine am_q_aload_n rfl rfl ?_
    refine am_q_gr rfl rfl rfl ?_
    refine am_q_bipush (v := nI 125) rfl rfl ?_
    refine am_q_iload_n rfl rfl ?_
    refine am_q_iadd rfl (nI_add _ _) ?_
    refine am_q_iald rfl rfl (am_ix_nI (show 125 + j < 250 by omega) (by decide)) (hinv.2 142 (125 + j) (by omega)) ?_
    refine am_q_iast rfl rfl (am_ix_nI (show 1 + j < 250 by omega) (by decide)) rfl ?_
    refine am_q_iinc [some _, some _, some _, _] rfl (c := nI 1) rfl rfl (Nat.le_of_ble_eq_true rfl) (nI_add _ _) rfl ?_
    refine am_q_goto rfl ?_
    refine ih (j + 1) _ (by omega) ⟨fun t ht => ?_, fun a b z => (am_up_ne (by omega)).trans (hinv.2 a b z)⟩
    by_cases e : t = j
    · rw [e]; exact am_up_eq
    · exact (am_up_ne (by omega)).trans (hinv.1 t (by omega))

theorem m_yrT (d n C : Nat) (hC : C ≤ 40) (l2 l3 : Option Value) {μ : am_M2} {ν : am_N2} (hF : μ 133 8 = nI 0) : am_w (d + 4) (Option.some FieldType.int) am_g214 154 [some (.ref 133), some (.int (nI C)), l2, l3] [] (am_hp n μ ν) (fun y => ∃ μ', y = (some (.int (nI 0)), am_hp n μ' ν) ∧ μ' 142 0 = nI C ∧ (∀ t, t < 3 * C → μ' 142 (1 + t) = μ 142 (125 + t)) ∧ ∀ a b, ¬ (a = 142 ∧ b < 125) → μ' a b = μ a b) := by
  refine am_q_aload_n rfl rfl ?_
  refine am_q_gi rfl rfl rfl hF ?_
  refine am_q_zleN rfl (by omega) (fun c_158 => ?_) (fun c_158 => absurd c_158 (by omega))
  refine am_q_aload_n rfl rfl ?_
  refine am_q_gr rfl rfl rfl ?_
  refine am_q_iconst (v := nI 0) rfl rfl ?_
  refine am_q_iload_n rfl rfl ?_
  refine am_q_iast rfl rfl (am_ix_nI (show 0 < 250 by omega) (by decide)) rfl ?_
  refine am_q_iconst (v := nI 0) rfl rfl ?_
  refine am_q_istore_n [some _, some _, some _, _] rfl (Nat.le_of_ble_eq_true rfl) rfl ?_
  refine am_w_mono (fun y hy => ?_) (m_yrC d n C hC l3 ν (3 * C) 0 _ (by omega) ⟨fun t ht => absurd ht (Nat.not_lt_zero _), fun _ _ _ => rfl⟩)
  obtain ⟨μ2, rfl, e1, e2⟩ := hy
  exact ⟨μ2, rfl, (e2 142 0 (by omega)).trans am_up_eq, fun t ht => (e1 t ht).trans (am_up_ne (by omega)), fun a b z => (e2 a b (by omega)).trans (am_up_ne (by omega))⟩

def frMz (μ μ' : am_M2) : Prop := ∀ a b, ¬ (a = 133 ∧ (b = 0 ∨ b = 2 ∨ b = 3 ∨ b = 7 ∨ b = 8)) → a ≠ 135 → a ≠ 136 → a ≠ 142 → μ' a b = μ a b
def mYrQ (n : Nat) (V : sVal) (W : sWall) (U : List sWall) (K : Nat → Option (sWall × sSeen)) (S : sSeen) (Y : sYear) (μ : am_M2) (ν : am_N2) (r : Nat ⊕ sYear) (y : am_R) : Prop := ∃ μ' ν', y = (some (.int (nI (yrR r))), am_hp n μ' ν') ∧ μ' 133 2 = nI 0 ∧ frMz μ μ' ∧ frCuL ν ν' ∧ mR μ' V W U K S (match r with | .inl _ => Y | .inr Z => Z)
theorem mR_Y {V : sVal} {W : sWall} {U : List sWall} {K : Nat → Option (sWall × sSeen)} {S : sSeen} {Y Y' : sYear} {μ μ' : am_M2} (h : frMz μ μ') (hY : mYear μ' Y') (hR : mR μ V W U K S Y) : mR μ' V W U K S Y' := by
  obtain ⟨hV, hW, hU, hK, hS, -⟩ := hR
  have g : ∀ a b, 143 ≤ a ∨ a = 139 ∨ a = 140 → μ' a b = μ a b := fun a b ha => h a b (by omega) (by omega) (by omega) (by omega)
  exact ⟨mVal_c (fun i hi => by funext k; exact g i k (by omega)) hV, mWall_c (fun k a b => g _ _ (by decide)) hW, mUndo_c (h 133 18 (by omega) (by omega) (by omega) (by omega)) (fun k a b => g _ _ (by decide)) hU, mMk_c (fun m hm => g _ _ (by decide)) (fun k a b => g _ _ (by decide)) hK, mSeen_c (fun k a b => g _ _ (by decide)) hS, hY⟩
theorem mYear_d {μ : am_M2} {Y : sYear} (h1 : μ 142 0 = nI Y.1) (h40 : Y.1 ≤ 40) {μ1 : am_M2} (hd : mYd μ1 Y) (h2 : ∀ t, t < 3 * Y.1 → μ 142 (1 + t) = μ1 142 (125 + t)) : mYear μ Y := by
  refine ⟨h1, h40, fun i hi => ?_⟩
  obtain ⟨a, b, c⟩ := hd i hi
  have e1 := h2 (3 * i) (by omega)
  have e2 := h2 (3 * i + 1) (by omega)
  have e3 := h2 (3 * i + 2) (by omega)
  rw [show 1 + (3 * i + 1) = 2 + 3 * i by omega] at e2
  rw [show 1 + (3 * i + 2) = 3 + 3 * i by omega] at e3
  exact ⟨e1.trans a, fun _ => e2.trans b, fun _ => e3.trans c⟩
theorem m_yrL (d n : Nat) {X : tTp} {V : sVal} {nm : Nat → Nat} {W : sWall} {U : List sWall} {K : Nat → Option (sWall × sSeen)} {S : sSeen} {Y0 : sYear} {μ0 : am_M2} {ν0 ν : am_N2} (hX : tpOk X) (hO : vOk V) (hn : mNmR ν 0 nm (vN V)) (hR : mR μ0 V W U K S Y0) (hl : frCuL ν0 ν) : ∀ (m i : Nat) (Y : sYear) (l2 l3 : Option Value) (μ : am_M2), mP μ ν X i → mYd μ Y → yOk V Y → μ 133 2 = nI 0 → (∀ a b, ¬ (a = 133 ∧ (b = 0 ∨ b = 2 ∨ b = 3 ∨ b = 7 ∨ b = 8)) → a ≠ 135 → a ≠ 136 → ¬ (a = 142 ∧ 125 ≤ b) → μ a b = μ0 a b) → tN X ≤ i + m → am_w (d + 4) (Option.some FieldType.int) am_g214 11 [some (.ref 133), some (.int (nI Y.1)), l2, l3] [] (am_hp n μ ν) (mYrQ n V W U K S Y0 μ0 ν0 (pYr X V nm m i Y)) := by
  have hP8 := hO.1.2.1
  -- at a fault
  have hFt : ∀ (c : Nat) (μ : am_M2), μ 133 2 = nI 0 → (∀ a b, ¬ (a = 133 ∧ (b = 0 ∨ b = 2 ∨ b = 3 ∨ b = 7 ∨ b = 8)) → a ≠ 135 → a ≠ 136 → ¬ (a = 142 ∧ 125 ≤ b) → μ a b = μ0 a b) → mYrQ n V W U K S Y0 μ0 ν0 (.inl c) (some (.int (nI c)), am_hp n μ ν) := by
    intro c μ h2 hf
    have hz : frMz μ0 μ := fun a b z1 z2 z3 z4 => hf a b z1 z2 z3 (by omega)
    obtain ⟨y1, y2, y3⟩ := hR.2.2.2.2.2
    have hYY : mYear μ Y0 := by
      refine ⟨(hf 142 0 (by omega) (by omega) (by omega) (by omega)).trans y1, y2, fun i hi => ?_⟩
      obtain ⟨a, b, c⟩ := y3 i hi
      exact ⟨(hf 142 _ (by omega) (by omega) (by omega) (by omega)).trans a, fun z => (hf 142 _ (by omega) (by omega) (by omega) (by omega)).trans (b z), fun z => (hf 142 _ (by omega) (by omega) (by omega) (by omega)).trans (c z)⟩
    exact ⟨μ, ν, rfl, h2, hz, hl, mR_Y hz hYY hR⟩
  have hEn : ∀ (i : Nat) (Y : sYear) (l2 l3 : Option Value) (μ : am_M2), mP μ ν X i → mYd μ Y → yOk V Y → μ 133 2 = nI 0 → (∀ a b, ¬ (a = 133 ∧ (b = 0 ∨ b = 2 ∨ b = 3 ∨ b = 7 ∨ b = 8)) → a ≠ 135 → a ≠ 136 → ¬ (a = 142 ∧ 125 ≤ b) → μ a b = μ0 a b) → kd X i = 0 → am_w (d + 4) (Option.some FieldType.int) am_g214 11 [some (.ref 133), some (.int (nI Y.1)), l2, l3] [] (am_hp n μ ν) (mYrQ n V W U K S Y0 μ0 ν0 (.inr Y)) := by
    intro i Y l2 l3 μ hP hD hY h2 hf hk
    refine m_yrE d n i Y.1 l2 l3 hX hP _ hk ?_
    refine am_w_mono (fun y hy => ?_) (m_yrT d n Y.1 hY.1 l2 l3 hP.2.2.2.1)
    obtain ⟨μ2, rfl, e1, e2, e3⟩ := hy
    have hz : frMz μ0 μ2 := fun a b z1 z2 z3 z4 => (e3 a b (by omega)).trans (hf a b z1 z2 z3 (by omega))
    exact ⟨μ2, ν, rfl, (e3 133 2 (by omega)).trans h2, hz, hl, mR_Y hz (mYear_d e1 hY.1 hD e2) hR⟩
  intro m
  induction m with
  | zero =>
    intro i Y l2 l3 μ hP hD hY h2 hf hm
    have hi := hP.2.2.2.2
    have hk : kd X i = 0 := by rw [show i = tN X by omega]; exact tN_0 X
    exact hEn i Y l2 l3 μ hP hD hY h2 hf hk
  | succ m ih =>
    intro i Y l2 l3 μ hP hD hY h2 hf hm
    unfold pYr
    by_cases hk : kd X i = 0
    · rw [if_pos hk]
      exact hEn i Y l2 l3 μ hP hD hY h2 hf hk
    rw [if_neg hk]
    refine m_yrN d n i Y.1 l2 l3 hX hP _ hk ?_
    have hV : mVal μ V := mVal_c (fun a ha => by funext k; exact hf a k (by omega) (by omega) (by omega) (by omega)) hR.1
    refine m_yl d n i l2 l3 hX hO hY.1 hV hn hP hD hk _ ?_
    cases hr : pYl X V nm i Y with
    | inl c =>
      intro C l2 l3 μ' h8 hc hc2 hy
      refine am_w_mono (fun y hy' => ?_) (m_yrG d n c C l2 l3 hc hc2 h8)
      rw [hy']
      exact hFt c μ' ((hy 133 2 (by omega) (by omega)).trans h2) (fun a b z1 z2 z3 z4 => (hy a b (by omega) (by omega)).trans (hf a b z1 z2 z3 z4))
    | inr q =>
      intro l2 l3 μ' hP' hD' hy
      obtain ⟨g1, g2, g3⟩ := pYl_g hP8 hY hP.2.2.2.2 hr
      refine m_yrS d n q.1 q.2.1 l2 l3 hX hP' _ ?_
      dsimp only
      by_cases hs : isSg X q.1 59 = true
      · rw [if_pos hs, if_pos hs]
        exact ih (q.1 + 1) q.2 l2 l3 _ (mP_at hP' (tN_s g2 (sg_k hs))) (fun i hi => ⟨(am_up_ne (by omega)).trans (hD' i hi).1, (am_up_ne (by omega)).trans (hD' i hi).2.1, (am_up_ne (by omega)).trans (hD' i hi).2.2⟩) g3 ((am_up_ne (by omega)).trans ((hy 133 2 (by omega) (by omega)).trans h2)) (fun a b z1 z2 z3 z4 => (am_up_ne (by omega)).trans ((hy a b (by omega) (by omega)).trans (hf a b z1 z2 z3 z4))) (by omega)
      · rw [if_neg hs, if_neg hs]
        obtain ⟨w0, w1⟩ := wr_b hX q.1 (k := 1) (by decide) (by decide)
        refine am_w_mono (fun y hy' => ?_) (m_yrF d n _ q.2.1 l2 l3 w0 w1 am_up_eq)
        rw [hy']
        exact hFt _ _ ((am_up_ne (by omega)).trans ((hy 133 2 (by omega) (by omega)).trans h2)) (fun a b z1 z2 z3 z4 => (am_up_ne (by omega)).trans ((hy a b (by omega) (by omega)).trans (hf a b z1 z2 z3 z4)))
theorem m_yrW (d n : Nat) {X : tTp} {V : sVal} {nm : Nat → Nat} {W : sWall} {U : List sWall} {K : Nat → Option (sWall × sSeen)} {S : sSeen} {Y : sYear} {μ : am_M2} {ν : am_N2} (hX : tpOk X) (hT : mTp μ X) (hL : mLg ν) (hO : vOk V) (hR : mR μ V W U K S Y) (hn : mNmR ν 0 nm (vN V)) : am_w (d + 4) (Option.some FieldType.int) am_g214 0 [some (.ref 133), none, none, none] [] (am_hp n μ ν) (mYrQ n V W U K S Y μ ν (pYr X V nm 1000 0 y0)) := by
  refine am_q_aload_n rfl rfl ?_
  refine am_q_iconst (v := nI 0) rfl rfl ?_
  refine am_q_pi rfl rfl rfl (Or.inl rfl) ?_
  refine am_q_aload_n rfl rfl ?_
  obtain ⟨y, hy, hq⟩ := m_cut d n (X := X) (μ := am_up μ 133 0 (nI 0)) (ν := ν) hX ⟨(am_up_ne (by omega)).trans hT.1, fun j hj => (am_up_ne (by omega)).trans (hT.2 j hj)⟩
  obtain ⟨μ1, ν1, rfl, q1, q2, q3, q4, q5, q6⟩ := hq
  refine am_q_call rfl rfl (hy) rfl ?_
  refine am_q_iconst (v := nI 0) rfl rfl ?_
  refine am_q_istore_n [some _, some _, none, none] rfl (Nat.le_of_ble_eq_true rfl) rfl ?_
  have hN := tN_1k hX
  exact m_yrL d n hX hO ⟨fun s hs => ⟨(q6 141 _ (by omega)).trans (hn.1 s hs).1, (hn.1 s hs).2⟩, hn.2⟩ hR q6 1000 0 y0 none none μ1 ⟨q1, fun r hr => (q6 138 r (by omega)).trans (hL r hr), q2, q3, Nat.zero_le _⟩ (fun i hi => absurd hi (Nat.not_lt_zero _)) ⟨by decide, fun i hi => absurd hi (Nat.not_lt_zero _)⟩ q4 (fun a b z1 z2 z3 z4 => (q5 a b (by omega) z2 z3).trans (am_up_ne (by omega))) (by omega)

/-- the model's year() -/
theorem m_year (d n : Nat) {X : tTp} {V : sVal} {nm : Nat → Nat} {W : sWall} {U : List sWall} {K : Nat → Option (sWall × sSeen)} {S : sSeen} {Y : sYear} {μ : am_M2} {ν : am_N2} (hX : tpOk X) (hT : mTp μ X) (hL : mLg ν) (hO : vOk V) (hR : mR μ V W U K S Y) (hn : mNmR ν 0 nm (vN V)) : ∃ y, am_run (d + 5) 214 [.ref 133] (am_hp n μ ν) = some y ∧ mYrQ n V W U K S Y μ ν (pYr X V nm 1000 0 y0) y := am_run_wE (k := 214) (d := d + 4) rfl rfl (Nat.le_of_ble_eq_true rfl) [some (.ref 133), none, none, none] rfl (m_yrW d n hX hT hL hO hR hn)