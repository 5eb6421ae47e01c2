theorem pNI_p {X : tTp} {i p P : Nat} (hP : P ≤ 8) (h : pNumI X i 0 (nI P - nI 1) = .inr p) : p < P ∧ kd X i = 3 := by
  unfold pNumI at h
  split at h
  · cases h
  rename_i c
  have hk : kd X i = 3 := by simpa using c
  split at h
  · cases h
  rename_i c2
  injection h with h
  have hn := kd_nu hk
  refine ⟨?_, hk⟩
  rw [← h]
  by_cases z : P = 0
  · exact absurd (Or.inr (show nI P - nI 1 < nI (nu X i) by rw [z]; exact Int32.lt_of_lt_of_le (show nI 0 - nI 1 < nI 0 by decide) (Int32.not_lt.mp (nI_pos (by omega))))) c2
  · have e : nI P - nI 1 = nI (P - 1) := pk_sub (by omega)
    rw [e] at c2
    have : ¬ P - 1 < nu X i := fun q => c2 (Or.inr ((nI_ltI (by omega) (by omega)).mpr q))
    omega
theorem pYl_g {X : tTp} {V : sVal} {nm : Nat → Nat} {i : Nat} {Y : sYear} {q : Nat × sYear} (hP : vP V ≤ 8) (hY : yOk V Y) (hi : i ≤ tN X) (h : pYl X V nm i Y = .inr q) : i < q.1 ∧ q.1 ≤ tN X ∧ yOk V q.2 := by
  have G : ∀ e s p, Y.1 < 40 → e < 4 → (e ≠ 0 → s < vN V) → (e = 2 → p < vP V) → yOk V (yA Y e s p) := fun e s p h4 he hs hp => by
    refine ⟨by show Y.1 + 1 ≤ 40; omega, fun k hk => ?_⟩
    have hk' : k < Y.1 + 1 := hk
    show fup Y.2.1 Y.1 e k < 4 ∧ (fup Y.2.1 Y.1 e k ≠ 0 → fup Y.2.2.1 Y.1 s k < vN V) ∧ (fup Y.2.1 Y.1 e k = 2 → fup Y.2.2.2 Y.1 p k < vP V)
    unfold fup
    by_cases c : k = Y.1
    · rw [if_pos c, if_pos c, if_pos c]; exact ⟨he, hs, hp⟩
    · rw [if_neg c, if_neg c, if_neg c]; exact hY.2 k (by omega)
  unfold pYl at h
  cases hd : isDd X i with
  | none => rw [hd] at h; cases h
  | some e =>
    rw [hd] at h
    simp only at h
    obtain ⟨hk1, hk2⟩ := isDd_s hd
    have k0 : kd X i ≠ 0 := fun z => by rw [tkc_0.mpr z] at hk1; omega
    have n1 := tN_s hi k0
    split at h
    · cases h
    rename_i c4
    split at h
    · injection h with h; rw [← h]; exact ⟨by show i < i + 1; omega, n1, G 0 0 0 (by omega) (by decide) (fun z => absurd rfl z) (fun z => by cases z)⟩
    rename_i c0
    cases ht : pTold X nm (vN V) (i + 1) with
    | inl c => rw [ht] at h; cases h
    | inr s =>
      rw [ht] at h
      simp only at h
      obtain ⟨k2, hs⟩ := pTold_s ht
      have n2 := tN_s n1 (nz k2 (by decide))
      split at h
      · rename_i c2
        cases hp : pNumI X (i + 2) 0 (nI (vP V) - nI 1) with
        | inl c => rw [hp] at h; cases h
        | inr p =>
          rw [hp] at h
          injection h with h
          obtain ⟨hpp, k3⟩ := pNI_p hP hp
          rw [← h]; exact ⟨by show i < i + 3; omega, tN_s n2 (nz k3 (by decide)), G e s p (by omega) (by omega) (fun _ => hs) (fun _ => hpp)⟩
      · rename_i c2
        injection h with h; rw [← h]; exact ⟨by show i < i + 2; omega, n2, G e s 0 (by omega) (by omega) (fun _ => hs) (fun z => absurd z c2)⟩
def pYr (X : tTp) (V : sVal) (nm : Nat → Nat) : Nat → Nat → sYear → Nat ⊕ sYear
  | 0, _, Y => .inr Y
  | m + 1, i, Y => if kd X i = 0 then .inr Y else (match pYl X V nm i Y with
    | .inl c => .inl c
    | .inr q => if isSg X q.1 59 = true then pYr X V nm m (q.1 + 1) q.2 else .inl (wr X q.1 1))
theorem pYr_g {X : tTp} {V : sVal} {nm : Nat → Nat} (hP : vP V ≤ 8) : ∀ m i Y Z, yOk V Y → i ≤ tN X → pYr X V nm m i Y = .inr Z → yOk V Z
  | 0, i, Y, Z, hG, hi, h => by unfold pYr at h; injection h with h; rw [← h]; exact hG
  | m + 1, i, Y, Z, hG, hi, h => by
    unfold pYr at h
    split at h
    · injection h with h; rw [← h]; exact hG
    cases hp : pYl X V nm i Y with
    | inl e => rw [hp] at h; cases h
    | inr q =>
      rw [hp] at h
      simp only at h
      obtain ⟨a, b, c⟩ := pYl_g hP hG hi hp
      split at h
      · rename_i z; exact pYr_g hP m _ _ Z c (tN_s b (sg_k z)) h
      · cases h
theorem pYr_m {X : tTp} {V : sVal} {nm : Nat → Nat} (hP : vP V ≤ 8) : ∀ m m' i Y, yOk V Y → i ≤ tN X → tN X ≤ i + m → tN X ≤ i + m' → pYr X V nm m i Y = pYr X V nm m' i Y
  | 0, 0, i, D, hG, hi, h1, h2 => rfl
  | 0, m' + 1, i, D, hG, hi, h1, h2 => by
    have e : i = tN X := by omega
    unfold pYr
    rw [if_pos (by rw [e]; exact tN_0 X)]
  | m + 1, 0, i, D, hG, hi, h1, h2 => by
    have e : i = tN X := by omega
    unfold pYr
    rw [if_pos (by rw [e]; exact tN_0 X)]
  | m + 1, m' + 1, i, D, hG, hi, h1, h2 => by
    unfold pYr
    split
    · rfl
    cases hp : pYl X V nm i D with
    | inl e => rfl
    | inr q =>
      obtain ⟨a, b, c⟩ := pYl_g hP hG hi hp
      show (if _ then _ else _) = (if _ then _ else _)
      split
      · rename_i z; exact pYr_m hP m m' _ _ c (tN_s b (sg_k z)) (by omega) (by omega)
      · rfl
def yrQ (X : tTp) (n : Nat) (μ : am_M2) (ν : am_N2) (r : Nat ⊕ sYear) (y : am_R) : Prop := match r with
  | .inl c => ∃ μ' ν', y = (some (.int (sB false)), am_hp n μ' ν') ∧ μ' 3 7 = nI c ∧ frY μ μ' ∧ frKL ν ν'
  | .inr Z => ∃ μ' ν', y = (some (.int (sB true)), am_hp n μ' ν') ∧ xYd μ' Z ∧ frY μ μ' ∧ frKL ν ν'
theorem yrQ_tr {X : tTp} {n : Nat} {μ μ1 : am_M2} {ν ν1 : am_N2} {r : Nat ⊕ sYear} {y : am_R} (h : frY μ μ1) (hl : frKL ν ν1) (hq : yrQ X n μ1 ν1 r y) : yrQ X n μ ν r y := by
  unfold yrQ at hq ⊢
  cases r with
  | inl c => obtain ⟨μ', ν', a, b, c, e⟩ := hq; exact ⟨μ', ν', a, b, frY_tr h c, frKL_tr hl e⟩
  | inr E => obtain ⟨μ', ν', a, b, c, e⟩ := hq; exact ⟨μ', ν', a, b, frY_tr h c, frKL_tr hl e⟩
theorem xVal_Y {μ μ' : am_M2} {V : sVal} (h : frY μ μ') (hV : xVal μ V) : xVal μ' V := xVal_rows (fun i a b => by funext k; exact h i k (by omega) (by omega)) hV
theorem xYd_3 {μ μ' : am_M2} {Y : sYear} (h : frT3 μ μ') (hY : xYd μ Y) : xYd μ' Y := ⟨(h 31 3 (by omega)).trans hY.1, fun i hi => by rw [h 32 i (by omega), h 33 i (by omega), h 34 i (by omega)]; exact hY.2 i hi⟩
theorem s_yrF (d n it c : Nat) {X : tTp} (hit : it ≤ 1000) {μ : am_M2} {ν : am_N2} (h7 : μ 3 7 = nI c) : am_w (d + 7) (Option.some FieldType.boolean) am_g59 10 [some (.ref 31), some (.ref 3), some (.ref 5), some (.int (sB (false))), some (.int (nI it))] [] (am_hp n μ ν) (yrQ X n μ ν (.inl c)) := by
  refine am_q_iload rfl rfl ?_
  refine am_q_sipush (v := nI 1000) rfl rfl ?_
  refine am_q_igeN rfl (by omega) (by omega) (fun c_15 => ?_) (fun c_15 => ?_)
  · refine am_q_iload_n rfl rfl ?_
    refine am_q_ireturn rfl rfl (sB_ok _) ?_
    exact ⟨_, _, rfl, h7, frY_rf μ, frKL_rf ν⟩
  · refine am_q_iload_n rfl rfl ?_
    refine am_q_if_eqB rfl (fun c_19 => ?_) (fun c_19 => by simp at c_19)
    refine am_q_iload_n rfl rfl ?_
    refine am_q_ireturn rfl rfl (sB_ok _) ?_
    exact ⟨_, _, rfl, h7, frY_rf μ, frKL_rf ν⟩

theorem s_yrA (d n j c : Nat) {X : tTp} (hit : j + 1 ≤ 1000) {μ : am_M2} {ν : am_N2} (h7 : μ 3 7 = nI c) : am_w (d + 7) (Option.some FieldType.boolean) am_g59 35 [some (.ref 31), some (.ref 3), some (.ref 5), some (.int (sB (true))), some (.int (nI j))] [.int (sB false)] (am_hp n μ ν) (yrQ X n μ ν (.inl c)) := by
  refine am_q_if_eqB rfl (fun c_35 => ?_) (fun c_35 => by simp at c_35)
  refine am_q_iconst (v := nI 0) rfl rfl ?_
  refine am_q_istore_n [some _, some _, some _, some _, some _] rfl (Nat.le_of_ble_eq_true rfl) rfl ?_
  refine am_q_iinc [some _, some _, some _, some _, some _] rfl (c := nI 1) rfl rfl (Nat.le_of_ble_eq_true rfl) (nI_add _ _) rfl ?_
  refine am_q_goto rfl ?_
  exact s_yrF d n (j + 1) c hit h7

theorem s_yrB (d n j c : Nat) {X : tTp} (hit : j + 1 ≤ 1000) {μ : am_M2} {ν : am_N2} (h7 : μ 3 7 = nI c) : am_w (d + 7) (Option.some FieldType.boolean) am_g59 44 [some (.ref 31), some (.ref 3), some (.ref 5), some (.int (sB (true))), some (.int (nI j))] [.int (sB false)] (am_hp n μ ν) (yrQ X n μ ν (.inl c)) := by
  refine am_q_if_eqB rfl (fun c_44 => ?_) (fun c_44 => by simp at c_44)
  refine am_q_iconst (v := nI 0) rfl rfl ?_
  refine am_q_istore_n [some _, some _, some _, some _, some _] rfl (Nat.le_of_ble_eq_true rfl) rfl ?_
  refine am_q_iinc [some _, some _, some _, some _, some _] rfl (c := nI 1) rfl rfl (Nat.le_of_ble_eq_true rfl) (nI_add _ _) rfl ?_
  refine am_q_goto rfl ?_
  exact s_yrF d n (j + 1) c hit h7

theorem s_yrS0 (d n j i : Nat) {X : tTp} (hit : j + 1 ≤ 1000) {μ : am_M2} {ν : am_N2} (hX : tpOk X) (hT : xTk μ ν X i) (hL : xLg ν) (hs : ¬ isSg X i 59 = true) : am_w (d + 7) (Option.some FieldType.boolean) am_g59 35 [some (.ref 31), some (.ref 3), some (.ref 5), some (.int (sB (true))), some (.int (nI j))] [.int (sB true)] (am_hp n μ ν) (yrQ X n μ ν (.inl (wr X i 1))) := by
  refine am_q_if_eqB rfl (fun c_35 => by simp at c_35) (fun c_35 => ?_)
  refine am_q_aload_n rfl rfl ?_
  refine am_q_bipush (v := nI 59) rfl rfl ?_
  refine am_q_call rfl rfl (s_pass0 _ 59 (by decide) n i ν hX hT hL (fun z => hs ((tkc_s (by decide)).mp z))) rfl ?_
  exact am_w_mono (fun r hr => yrQ_tr (frY_3 frT3_7) (frKL_rf ν) hr) (s_yrB d n j (wr X i 1) hit am_up_eq)

theorem s_yrS1 (d n j i : Nat) {X : tTp} (hit : j + 1 ≤ 1000) {μ : am_M2} {ν : am_N2} (hX : tpOk X) (hT : xTk μ ν X i) (hL : xLg ν) (hs : isSg X i 59 = true) (Q : am_R → Prop) (K : ∀ μ1 ν1, xTk μ1 ν1 X (i + 1) → xLg ν1 → frK μ μ1 → frKL ν ν1 → am_w (d + 7) (Option.some FieldType.boolean) am_g59 10 [some (.ref 31), some (.ref 3), some (.ref 5), some (.int (sB true)), some (.int (nI (j + 1)))] [] (am_hp n μ1 ν1) Q) : am_w (d + 7) (Option.some FieldType.boolean) am_g59 35 [some (.ref 31), some (.ref 3), some (.ref 5), some (.int (sB (true))), some (.int (nI j))] [.int (sB true)] (am_hp n μ ν) (Q) := by
  refine am_q_if_eqB rfl (fun c_35 => by simp at c_35) (fun c_35 => ?_)
  refine am_q_aload_n rfl rfl ?_
  refine am_q_bipush (v := nI 59) rfl rfl ?_
  obtain ⟨μ1, ν1, hc1, hT1, hf1, hl1⟩ := s_pass1 (d + 2) 59 (by decide) n i ν hX hT hL ((tkc_s (by decide)).mpr hs)
  refine am_q_call rfl rfl (hc1) rfl ?_
  refine am_q_if_eqB rfl (fun c_44 => by simp at c_44) (fun c_44 => ?_)
  refine am_q_iconst (v := nI 1) rfl rfl ?_
  refine am_q_goto rfl ?_
  refine am_q_istore_n [some _, some _, some _, some _, some _] rfl (Nat.le_of_ble_eq_true rfl) rfl ?_
  refine am_q_iinc [some _, some _, some _, some _, some _] rfl (c := nI 1) rfl rfl (Nat.le_of_ble_eq_true rfl) (nI_add _ _) rfl ?_
  refine am_q_goto rfl ?_
  exact K μ1 ν1 hT1 (xLg_S hl1 hL) hf1 hl1

theorem s_yrL (d n : Nat) {X : tTp} {V : sVal} {nm : Nat → Nat} (hX : tpOk X) (hP : vP V ≤ 8) : ∀ (m j : Nat) (i : Nat) (Y : sYear) (μ : am_M2) (ν : am_N2), j + m = 1000 → xTk μ ν X i ∧ xLg ν ∧ xVal μ V ∧ (∀ s, s < vN V → ν 6 s = lN (nm s) ∧ nm s < 2 ^ 63) ∧ xYd μ Y ∧ yOk V Y ∧ i ≤ tN X → am_w (d + 7) (Option.some FieldType.boolean) am_g59 10 [some (.ref 31), some (.ref 3), some (.ref 5), some (.int (sB (true))), some (.int (nI j))] [] (am_hp n μ ν) (yrQ X n μ ν (pYr X V nm m i Y)) := by
  intro m
  induction m with
  | zero =>
    intro j i Y μ ν hj hinv
    obtain ⟨hT, hL, hV, hn, hY, hG, hiT⟩ := hinv
    refine am_q_iload rfl rfl ?_
    refine am_q_sipush (v := nI 1000) rfl rfl ?_
    refine am_q_igeN rfl (by omega) (by omega) (fun c_15 => ?_) (fun c_15 => absurd c_15 (by omega))
    refine am_q_iload_n rfl rfl ?_
    refine am_q_ireturn rfl rfl (sB_ok _) ?_
    unfold pYr
    exact ⟨_, _, rfl, hY, frY_rf μ, frKL_rf ν⟩
  | succ m ih =>
    intro j i Y μ ν hj hinv
    obtain ⟨hT, hL, hV, hn, hY, hG, hiT⟩ := hinv
    have ht := tkc_lt X i
    refine am_q_iload rfl rfl ?_
    refine am_q_sipush (v := nI 1000) rfl rfl ?_
    refine am_q_igeN rfl (by omega) (by omega) (fun c_15 => absurd c_15 (by omega)) (fun c_15 => ?_)
    refine am_q_iload_n rfl rfl ?_
    refine am_q_if_eqB rfl (fun c_19 => by simp at c_19) (fun c_19 => ?_)
    refine am_q_aload_n rfl rfl ?_
    refine am_q_gi rfl rfl rfl hT.2.2.2.1 ?_
    refine am_q_zeqN rfl (by omega) (fun c_26 => ?_) (fun c_26 => ?_)
    · have hk0 := tkc_0.mp c_26
      refine am_q_iload_n rfl rfl ?_
      refine am_q_ireturn rfl rfl (sB_ok _) ?_
      unfold pYr
      rw [if_pos hk0]
      exact ⟨_, _, rfl, hY, frY_rf μ, frKL_rf ν⟩
    · have hk0 : ¬ kd X i = 0 := fun z => c_26 (tkc_0.mpr z)
      refine am_q_aload_n rfl rfl ?_
      refine am_q_aload_n rfl rfl ?_
      refine am_q_aload_n rfl rfl ?_
      obtain ⟨y, hy, hq⟩ := s_yline d n i ν hX hT hL hV hn hY hG.1
      unfold pYr
      rw [if_neg hk0]
      cases hr : pYl X V nm i Y with
      | inl c =>
        rw [hr] at hq
        obtain ⟨μ2, ν2, rfl, b1, b2, b3⟩ := hq
        refine am_q_call rfl rfl hy rfl ?_
        exact am_w_mono (fun r hr => yrQ_tr b2 b3 hr) (s_yrA d n j c (by omega) b1)
      | inr q =>
        rw [hr] at hq
        obtain ⟨μ2, ν2, rfl, b1, b2, b3, b4⟩ := hq
        obtain ⟨g1, g2, g3⟩ := pYl_g hP hG hiT hr
        refine am_q_call rfl rfl hy rfl ?_
        show am_w _ _ _ _ _ _ _ (yrQ X n μ ν (if isSg X q.1 59 = true then pYr X V nm m (q.1 + 1) q.2 else .inl (wr X q.1 1)))
        by_cases hs : isSg X q.1 59 = true
        · rw [if_pos hs]
          refine s_yrS1 d n j q.1 (by omega) hX b1 (xLg_S b4 hL) hs _ (fun μ3 ν3 e1 e2 e3 e4 => ?_)
          have hF := frY_tr b3 (frY_3 (frT3_K e3))
          have hN := frKL_tr b4 e4
          exact am_w_mono (fun r hr => yrQ_tr hF hN hr) (ih (j + 1) (q.1 + 1) q.2 μ3 ν3 (by omega) ⟨e1, e2, xVal_Y hF hV, fun s hs => ⟨(hN 6 s (by omega)).trans (hn s hs).1, (hn s hs).2⟩, xYd_3 (frT3_K e3) b2, g3, tN_s g2 (sg_k hs)⟩)
        · rw [if_neg hs]
          exact am_w_mono (fun r hr => yrQ_tr b3 b4 hr) (s_yrS0 d n j q.1 (by omega) hX b1 (xLg_S b4 hL) hs)

theorem y0_ok (V : sVal) : yOk V y0 := ⟨Nat.zero_le _, fun i hi => absurd hi (Nat.not_lt_zero _)⟩
theorem s_yrW (d : Nat) (n : Nat) {X : tTp} {V : sVal} {nm : Nat → Nat} {μ : am_M2} (ν : am_N2) (hX : tpOk X) (hT : xTk μ ν X 0) (hL : xLg ν) (hV : xVal μ V) (hn : ∀ s, s < vN V → ν 6 s = lN (nm s) ∧ nm s < 2 ^ 63) : am_w (d + 7) (Option.some FieldType.boolean) am_g59 0 [some (.ref 31), some (.ref 3), some (.ref 5), none, none] [] (am_hp n μ ν) (yrQ X n μ ν (pYr X V nm 1000 0 y0)) := by
  refine am_q_aload_n rfl rfl ?_
  refine am_q_iconst (v := nI 0) rfl rfl ?_
  refine am_q_pi rfl rfl rfl (Or.inl rfl) ?_
  refine am_q_iconst (v := nI 1) rfl rfl ?_
  refine am_q_istore_n [some _, some _, some _, some _, none] rfl (Nat.le_of_ble_eq_true rfl) rfl ?_
  refine am_q_iconst (v := nI 0) rfl rfl ?_
  refine am_q_istore [some _, some _, some _, some _, some _] rfl (Nat.le_of_ble_eq_true rfl) rfl ?_
  have hf : frY μ (am_up μ 31 3 (nI 0)) := fun i k a b => am_up_ne (by omega)
  exact am_w_mono (fun r hr => yrQ_tr hf (frKL_rf ν) hr) (s_yrL d n hX hV.1.2.2.2 1000 0 0 y0 _ ν (by omega) ⟨xTk_up (by decide) hT, hL, xVal_Y hf hV, hn, ⟨am_up_eq, fun i hi => absurd hi (Nat.not_lt_zero _)⟩, y0_ok V, Nat.zero_le _⟩)

theorem s_yread (d : Nat) (n : Nat) {X : tTp} {V : sVal} {nm : Nat → Nat} {μ : am_M2} (ν : am_N2) (hX : tpOk X) (hT : xTk μ ν X 0) (hL : xLg ν) (hV : xVal μ V) (hn : ∀ s, s < vN V → ν 6 s = lN (nm s) ∧ nm s < 2 ^ 63) : ∃ y, am_run (d + 8) 59 [.ref 31, .ref 3, .ref 5] (am_hp n μ ν) = some y ∧ yrQ X n μ ν (pYr X V nm 1000 0 y0) y := am_run_wE (k := 59) (d := d + 7) rfl rfl (Nat.le_of_ble_eq_true rfl) [some (.ref 31), some (.ref 3), some (.ref 5), none, none] rfl (s_yrW d n ν hX hT hL hV hn)