def xDf (μ : am_M2) (ν : am_N2) (D : dft) : Prop := (μ 16 8 = nI (vP D.1) ∧ μ 16 9 = nI (vN D.1) ∧ μ 16 10 = nI (vQ D.1) ∧ μ 16 11 = nI (vF D.1) ∧ μ 16 12 = sB D.2.2) ∧ (∀ s, s < vN D.1 → μ 18 s = nI (vK D.1 s) ∧ μ 19 s = nI (vS D.1 s) ∧ μ 20 s = nI (vD D.1 s) ∧ μ 21 s = nI (vW D.1 s) ∧ ν 17 s = lN (D.2.1 s)) ∧ (∀ s, s < 6 → μ 22 s = nI (vH D.1 s)) ∧ (∀ j, j < vF D.1 → μ 23 j = nI (vR D.1 j)) ∧ lawSt μ (vL D.1)
def dOk (D : dft) : Prop := (vN D.1 ≤ 6 ∧ vP D.1 ≤ 8 ∧ vF D.1 ≤ 12 ∧ True) ∧ (∀ s, s < vN D.1 → vK D.1 s ≤ 3 ∧ vS D.1 s ≤ 20 ∧ vD D.1 s ≤ 60 ∧ D.2.1 s < 2 ^ 63) ∧ (∀ s, vH D.1 s < 64) ∧ (∀ j, j < vF D.1 → vR D.1 j ≤ 9)
def frVd (μ μ' : am_M2) : Prop := ∀ i k, ¬ (i = 3 ∧ 2 ≤ k) → ¬ (16 ≤ i ∧ i ≤ 26) → μ' i k = μ i k
def frVL (ν ν' : am_N2) : Prop := ∀ i k, ¬ (i = 3 ∧ k = 6) → i ≠ 17 → ν' i k = ν i k
theorem frVd_tr {μ μ' μ'' : am_M2} (h : frVd μ μ') (h' : frVd μ' μ'') : frVd μ μ'' := fun i k a b => (h' i k a b).trans (h i k a b)
theorem frVL_tr {ν ν' ν'' : am_N2} (h : frVL ν ν') (h' : frVL ν' ν'') : frVL ν ν'' := fun i k a b => (h' i k a b).trans (h i k a b)
theorem frVd_rf (μ : am_M2) : frVd μ μ := fun _ _ _ _ => rfl
theorem frVL_rf (ν : am_N2) : frVL ν ν := fun _ _ _ _ => rfl
theorem frVd_3 {μ μ' : am_M2} (h : frT3 μ μ') : frVd μ μ' := fun i k a b => h i k a
theorem frVL_3 {ν ν' : am_N2} (h : frKL ν ν') : frVL ν ν' := fun i k a b => h i k a
theorem frVd_up {μ : am_M2} {i k : Nat} {v : Int32} (h : 16 ≤ i ∧ i ≤ 26) : frVd μ (am_up μ i k v) := fun a b z y => am_up_ne (by omega)
theorem frVd_L {μ μ' : am_M2} (h : frLw μ μ') : frVd μ μ' := fun i k a b => h i k a (by omega) (by omega)
theorem xLg_V {ν ν' : am_N2} (h : frVL ν ν') (hL : xLg ν) : xLg ν' := fun r hr => (h 1 r (by omega) (by omega)).trans (hL r hr)
theorem xDf_3 {μ μ' : am_M2} {ν ν' : am_N2} {D : dft} (h : frT3 μ μ') (hl : frKL ν ν') (hD : xDf μ ν D) : xDf μ' ν' D := by
  obtain ⟨⟨a1, a2, a3, a4, a5⟩, b, c, e, f⟩ := hD
  have g : ∀ i k, 16 ≤ i → μ' i k = μ i k := fun i k hi => h i k (by omega)
  exact ⟨⟨by rw [g _ _ (by decide)]; exact a1, by rw [g _ _ (by decide)]; exact a2, by rw [g _ _ (by decide)]; exact a3, by rw [g _ _ (by decide)]; exact a4, by rw [g _ _ (by decide)]; exact a5⟩, fun s hs => by rw [g _ _ (by decide), g 19 s (by decide), g 20 s (by decide), g 21 s (by decide), hl 17 s (by omega)]; exact b s hs, fun s hs => by rw [g _ _ (by decide)]; exact c s hs, fun j hj => by rw [g _ _ (by decide)]; exact e j hj, lawSt_3 h f⟩
def vlQ (X : tTp) (n : Nat) (μ : am_M2) (ν : am_N2) (r : Nat ⊕ (Nat × dft)) (y : am_R) : Prop := match r with
  | .inl c => ∃ μ' ν' N, y = (some (.int (sB false)), am_hp n μ' ν') ∧ μ' 3 7 = nI c ∧ μ' 16 9 = nI N ∧ N ≤ 6 ∧ frVd μ μ' ∧ frVL ν ν'
  | .inr q => ∃ μ' ν', y = (some (.int (sB true)), am_hp n μ' ν') ∧ xTk μ' ν' X q.1 ∧ xDf μ' ν' q.2 ∧ frVd μ μ' ∧ frVL ν ν'
theorem vl_wr {X : tTp} {n i k : Nat} {μ μ1 : am_M2} {ν ν1 : am_N2} {N : Nat} (h9 : μ1 16 9 = nI N) (hN : N ≤ 6) (hf : frVd μ μ1) (hl : frVL ν ν1) : vlQ X n μ ν (.inl (wr X i k)) (some (.int (sB false)), am_hp n (am_up μ1 3 7 (nI (wr X i k))) ν1) :=
  ⟨_, _, N, rfl, am_up_eq, (am_up_ne (by omega)).trans h9, hN, frVd_tr hf (frVd_3 frT3_7), hl⟩
def dP (D : dft) (v : Nat) : dft := ((vN D.1, v, vQ D.1, vF D.1, vK D.1, vS D.1, vD D.1, vH D.1, vR D.1, vL D.1), D.2)
def pWall (X : tTp) (i : Nat) (D : dft) : Nat ⊕ (Nat × dft) := if 0 < vP D.1 then .inl (wr X i 3) else (match pNum X (i + 1) 1 8 with
  | .inl c => .inl c
  | .inr v => .inr (i + 2, dP D v))
theorem s_wallL (d : Nat) (n i : Nat) {X : tTp} {D : dft} {μ : am_M2} (ν : am_N2) (hX : tpOk X) (hT : xTk μ ν X i) (hL : xLg ν) (hD : xDf μ ν D) (hO : dOk D) : am_w (d + 5) (Option.some FieldType.boolean) am_g30 0 [some (.ref 16), some (.ref 3)] [] (am_hp n μ ν) (vlQ X n μ ν (pWall X i D)) := by
  have hN6 := hO.1.1
  have hP8 := hO.1.2.1
  refine am_q_aload_n rfl rfl ?_
  refine am_q_gi rfl rfl rfl hD.1.1 ?_
  refine am_q_zleN rfl (by omega) (fun c_4 => ?_) (fun c_4 => ?_)
  · have hz : ¬ 0 < vP D.1 := by omega
    refine am_q_aload_n rfl rfl ?_
    obtain ⟨μ1, ν1, hc1, hT1, hf1, hl1⟩ := s_step (d + 1) n (i + 1) ν hX hT.1 hT.2.1 hL
    have hD1 := xDf_3 (frT3_K hf1) hl1 hD
    refine am_q_call rfl rfl (hc1) rfl ?_
    unfold pWall
    rw [if_neg hz]
    show am_w _ _ _ _ _ _ _ (vlQ X n μ ν (match pNum X (i + 1) 1 8 with | .inl c => .inl c | .inr v => .inr (i + 2, dP D v)))
    refine am_q_aload_n rfl rfl ?_
    refine am_q_aload_n rfl rfl ?_
    refine am_q_iconst (v := nI 1) rfl rfl ?_
    refine am_q_bipush (v := nI 8) rfl rfl ?_
    rw [← pNumI_N (by decide)]
    cases hr : pNumI X (i + 1) 1 (nI 8) with
    | inl c =>
      obtain ⟨μ2, hc2, hf2, h7⟩ := s_passN0 d (nI 8) n (i + 1) ν1 hX hT1 (xLg_S hl1 hL) 1 (by decide) c hr
      refine am_q_call rfl rfl hc2 rfl ?_
      refine am_q_pi rfl rfl rfl (Or.inl rfl) ?_
      refine am_q_aload_n rfl rfl ?_
      refine am_q_gi rfl rfl rfl (show _ = (-1 : Int32) from rfl) ?_
      refine am_q_iconst (v := -1) rfl rfl ?_
      refine am_q_icmp_eq rfl (fun _ => ?_) (fun c => absurd rfl c)
      refine am_q_iconst (v := nI 0) rfl rfl ?_
      refine am_q_ireturn rfl rfl rfl ?_
      exact ⟨_, _, vN D.1, rfl, (am_up_ne (by omega)).trans h7, (am_up_ne (by omega)).trans ((hf2 16 9 (by omega)).trans hD1.1.2.1), hN6, frVd_tr (frVd_tr (frVd_3 (frT3_K hf1)) (frVd_3 hf2)) (frVd_up (by omega)), frVL_3 hl1⟩
    | inr v =>
      obtain ⟨μ2, ν2, hc2, hT2, hf2, hl2, hv, hv2⟩ := s_passN1 d (nI 8) n (i + 1) ν1 hX hT1 (xLg_S hl1 hL) 1 (by decide) v hr
      refine am_q_call rfl rfl hc2 rfl ?_
      refine am_q_pi rfl rfl rfl (Or.inl rfl) ?_
      refine am_q_aload_n rfl rfl ?_
      refine am_q_gi rfl rfl rfl (show _ = nI v from rfl) ?_
      refine am_q_iconst (v := -1) rfl rfl ?_
      refine am_q_icmp_eq rfl (fun c => ?_) (fun c => ?_)
      · exact absurd (show nI v < 0 by rw [c]; decide) (nI_pos (by omega))
      refine am_q_iconst (v := nI 1) rfl rfl ?_
      refine am_q_goto rfl ?_
      refine am_q_ireturn rfl rfl rfl ?_
      have hD2 := xDf_3 (frT3_K hf2) hl2 hD1
      refine ⟨_, _, rfl, xTk_c (fun a b z => am_up_ne (by omega)) rfl hT2, ⟨⟨?_, ?_, ?_, ?_, ?_⟩, fun s hs => ?_, fun s hs => ?_, fun j hj => ?_, ?_, fun j hj => ?_⟩, frVd_tr (frVd_tr (frVd_3 (frT3_K hf1)) (frVd_3 (frT3_K hf2))) (frVd_up (by omega)), frVL_3 (frKL_tr hl1 hl2)⟩
      · exact am_up_eq
      · exact (am_up_ne (by omega)).trans hD2.1.2.1
      · exact (am_up_ne (by omega)).trans hD2.1.2.2.1
      · exact (am_up_ne (by omega)).trans hD2.1.2.2.2.1
      · exact (am_up_ne (by omega)).trans hD2.1.2.2.2.2
      · rw [am_up_ne (by omega), am_up_ne (by omega), am_up_ne (by omega), am_up_ne (by omega)]; exact hD2.2.1 s hs
      · rw [am_up_ne (by omega)]; exact hD2.2.2.1 s hs
      · rw [am_up_ne (by omega)]; exact hD2.2.2.2.1 j hj
      · rw [am_up_ne (by omega)]; exact hD2.2.2.2.2.1
      · rw [am_up_ne (by omega)]; exact hD2.2.2.2.2.2 j hj
  · refine am_q_aload_n rfl rfl ?_
    refine am_q_iconst (v := nI 3) rfl rfl ?_
    refine am_q_call rfl rfl (s_wrong _ 3 n i ν hT.2.2.1) rfl ?_
    refine am_q_ireturn rfl rfl (sB_ok _) ?_
    unfold pWall
    rw [if_pos c_4]
    exact vl_wr hD.1.2.1 hN6 (frVd_rf μ) (frVL_rf ν)

theorem s_snN16 (d n N w : Nat) (nm : Nat → Nat) (μ : am_M2) (ν : am_N2) (h9 : μ 16 9 = nI N) (hN : N ≤ 6) (hw : w < 2 ^ 63) (hn : ∀ s, s < N → ν 17 s = lN (nm s) ∧ nm s < 2 ^ 63) : ∀ (m j : Nat) , j + m = N → (∀ s, s < j → decide (nm s = w) = false) → am_w (d + 0) (Option.some FieldType.int) am_g36 2 [some (.ref 16), some (.long (lN w)), none, some (.int (nI j))] [] (am_hp n μ ν) (fun y => y = (some (.int (sn_place (fnd nm N w))), am_hp n μ ν)) := by
  intro m
  induction m with
  | zero =>
    intro j  hj hinv
    refine am_q_iload_n rfl rfl ?_
    refine am_q_aload_n rfl rfl ?_
    refine am_q_gi rfl rfl rfl h9 ?_
    refine am_q_igeN rfl (by omega) (by omega) (fun c_7 => ?_) (fun c_7 => absurd c_7 (by omega))
    refine am_q_iconst (v := -1) rfl rfl ?_
    refine am_q_ireturn rfl rfl rfl ?_
    unfold fnd; rw [if_neg (ff_no (fun s hs => hinv s (by omega)))]; rfl
  | succ m ih =>
    intro j  hj hinv
    refine am_q_iload_n rfl rfl ?_
    refine am_q_aload_n rfl rfl ?_
    refine am_q_gi rfl rfl rfl h9 ?_
    refine am_q_igeN rfl (by omega) (by omega) (fun c_7 => absurd c_7 (by omega)) (fun c_7 => ?_)
    refine am_q_aload_n rfl rfl ?_
    refine am_q_gr rfl rfl rfl ?_
    refine am_q_iload_n rfl rfl ?_
    refine am_q_lald rfl rfl (by first | exact am_ix_nI (by omega) (by omega) | rfl) (hn j (by omega)).1 ?_
    refine am_q_lload_n rfl rfl ?_
    refine am_q_lcmp rfl rfl ?_
    refine am_q_if_ne rfl (fun c_18 => ?_) (fun c_18 => ?_)
    · have hne : decide (nm j = w) = false := decide_eq_false (fun z => c_18 (lg0.mpr (by rw [z])))
      refine am_q_iinc [some _, some _, none, some _] rfl (c := nI 1) rfl rfl (Nat.le_of_ble_eq_true rfl) (nI_add _ _) rfl ?_
      refine am_q_goto rfl ?_
      exact ih (j + 1) (by omega) (fun r hr => by
                by_cases z : r = j
                · rw [z]; exact hne
                · exact hinv r (by omega))
    · refine am_q_iload_n rfl rfl ?_
      refine am_q_ireturn rfl rfl rfl ?_
      have he : nm j = w := (pk_lEQ (hn j (by omega)).2 hw).mp (lg0.mp c_18)
      unfold fnd
      rw [ff_yes (by omega) hinv (decide_eq_true he), if_pos (by omega)]; rfl

theorem s_soulNamed16 (d : Nat) (n N w : Nat) (nm : Nat → Nat) (μ : am_M2) (ν : am_N2) (h9 : μ 16 9 = nI N) (hN : N ≤ 6) (hw : w < 2 ^ 63) (hn : ∀ s, s < N → ν 17 s = lN (nm s) ∧ nm s < 2 ^ 63) : am_run (d + 1) 36 [.ref 16, .long (lN w)] (am_hp n μ ν) = some (some (.int (sn_place (fnd nm N w))), am_hp n μ ν) := by
  refine am_r36 (d := d + 0) (Nat.le_of_ble_eq_true rfl) [some (.ref 16), some (.long (lN w)), none, none] rfl ?_
  refine am_q_iconst (v := nI 0) rfl rfl ?_
  refine am_q_istore_n [some _, some _, none, some _] rfl (Nat.le_of_ble_eq_true rfl) rfl ?_
  exact s_snN16 d n N w nm μ ν h9 hN hw hn N 0 (by omega) (fun s hs => by omega)

theorem fnd_lt {nm : Nat → Nat} {N w s : Nat} (h : fnd nm N w = some s) : s < N ∧ nm s = w := by
  unfold fnd at h
  split at h
  · rename_i c; cases h; exact ⟨c, of_decide_eq_true (fa_first_yes _ _ c)⟩
  · cases h
theorem nm_k {X : tTp} {i : Nat} (h : isNm X i = true) : kd X i = 2 := by unfold isNm at h; rw [Bool.and_eq_true] at h; exact of_decide_eq_true h.1
theorem s_soulAt16 (d : Nat) (n i N : Nat) (nm : Nat → Nat) {X : tTp} {μ : am_M2} (ν : am_N2) (hX : tpOk X) (hT : xTk μ ν X i) (hL : xLg ν) (h9 : μ 16 9 = nI N) (hN : N ≤ 6) (hn : ∀ s, s < N → ν 17 s = lN (nm s) ∧ nm s < 2 ^ 63) : ∃ (μ' : am_M2), am_run (d + 2) 42 [.ref 16, .ref 3] (am_hp n μ ν) = some (some (.int (match pTold X nm N i with | .inl _ => -1 | .inr s => nI s)), am_hp n μ' ν) ∧ frT3 μ μ' ∧ (match pTold X nm N i with | .inl c => μ' 3 7 = nI c | .inr s => μ' = μ ∧ s < N ∧ kd X i = 2) := by
  have ht := tkc_lt X i
  have key : ∃ r, am_run (d + 2) 42 [.ref 16, .ref 3] (am_hp n μ ν) = some r ∧ ∃ (μ' : am_M2), r = (some (.int (match pTold X nm N i with | .inl _ => -1 | .inr s => nI s)), am_hp n μ' ν) ∧ frT3 μ μ' ∧ (match pTold X nm N i with | .inl c => μ' 3 7 = nI c | .inr s => μ' = μ ∧ s < N ∧ kd X i = 2) := am_run_wE (k := 42) (d := d + 1) rfl rfl (Nat.le_of_ble_eq_true rfl) [some (.ref 16), some (.ref 3), none] rfl (by
    refine am_q_iconst (v := -1) rfl rfl ?_
    refine am_q_istore_n [some _, some _, some _] rfl (Nat.le_of_ble_eq_true rfl) rfl ?_
    refine am_q_aload_n rfl rfl ?_
    refine am_q_gi rfl rfl rfl hT.2.2.2.1 ?_
    refine am_q_iconst (v := nI 2) rfl rfl ?_
    refine am_q_ieqN rfl (by omega) (by omega) (fun c_7 => ?_) (fun c_7 => ?_)
    · have hnm := tkc_n.mp c_7
      have h2 := nm_k hnm
      have hw := wd_63 hX h2
      refine am_q_aload_n rfl rfl ?_
      refine am_q_aload_n rfl rfl ?_
      refine am_q_gl rfl rfl rfl (hT.2.2.2.2.2 h2) ?_
      refine am_q_call rfl rfl (s_soulNamed16 _ n N (wd X i) nm μ ν h9 hN hw hn) rfl ?_
      refine am_q_istore_n [some _, some _, some _] rfl (Nat.le_of_ble_eq_true rfl) rfl ?_
      refine am_q_iload_n rfl rfl ?_
      refine am_q_iconst (v := -1) rfl rfl ?_
      refine am_q_icmp_ne rfl (fun c_30 => ?_) (fun c_30 => ?_)
      · obtain ⟨s, hs⟩ := pl_some c_30
        refine am_q_iload_n rfl rfl ?_
        refine am_q_ireturn rfl rfl rfl ?_
        have e : pTold X nm N i = .inr s := by unfold pTold; rw [if_neg (by rw [hnm]; decide), hs]
        rw [e, hs]
        exact ⟨_, rfl, frT3_rf μ, rfl, (fnd_lt hs).1, h2⟩
      · have hs := pl_none c_30 (fun k hk => by have := (fnd_lt hk).1; omega)
        refine am_q_aload_n rfl rfl ?_
        refine am_q_iconst (v := nI 2) rfl rfl ?_
        refine am_q_call rfl rfl (s_wrong _ 2 n i ν hT.2.2.1) rfl ?_
        refine am_q_popi rfl ?_
        refine am_q_iload_n rfl rfl ?_
        refine am_q_ireturn rfl rfl rfl ?_
        have e : pTold X nm N i = .inl (wr X i 2) := by unfold pTold; rw [if_neg (by rw [hnm]; decide), hs]
        rw [e, hs]
        exact ⟨_, rfl, frT3_7, am_up_eq⟩
    · have hnm : isNm X i = false := by cases hz : isNm X i with | false => rfl | true => exact absurd (tkc_n.mpr hz) c_7
      refine am_q_aload_n rfl rfl ?_
      refine am_q_iconst (v := nI 1) rfl rfl ?_
      refine am_q_call rfl rfl (s_wrong _ 1 n i ν hT.2.2.1) rfl ?_
      refine am_q_popi rfl ?_
      refine am_q_goto rfl ?_
      refine am_q_iload_n rfl rfl ?_
      refine am_q_ireturn rfl rfl rfl ?_
      have e : pTold X nm N i = .inl (wr X i 1) := by unfold pTold; rw [if_pos hnm]
      rw [e]
      exact ⟨_, rfl, frT3_7, am_up_eq⟩)
  obtain ⟨r, h1, μ', h2, h3⟩ := key
  exact ⟨μ', by rw [h1, h2], h3⟩

theorem s_passS1_16 (d : Nat) (n i N : Nat) (nm : Nat → Nat) {X : tTp} {μ : am_M2} (ν : am_N2) (hX : tpOk X) (hT : xTk μ ν X i) (hL : xLg ν) (h9 : μ 16 9 = nI N) (hN : N ≤ 6) (hn : ∀ s, s < N → ν 17 s = lN (nm s) ∧ nm s < 2 ^ 63) (s : Nat) (hr : pTold X nm N i = .inr s) : ∃ (μ' : am_M2) (ν' : am_N2), am_run (d + 5) 41 [.ref 16, .ref 3] (am_hp n μ ν) = some (some (.int (nI s)), am_hp n μ' ν') ∧ xTk μ' ν' X (i + 1) ∧ frK μ μ' ∧ frKL ν ν' ∧ s < N := by
  have key : ∃ r, am_run (d + 5) 41 [.ref 16, .ref 3] (am_hp n μ ν) = some r ∧ ∃ (μ' : am_M2) (ν' : am_N2), r = (some (.int (nI s)), am_hp n μ' ν') ∧ xTk μ' ν' X (i + 1) ∧ frK μ μ' ∧ frKL ν ν' ∧ s < N := am_run_wE (k := 41) (d := d + 4) rfl rfl (Nat.le_of_ble_eq_true rfl) [some (.ref 16), some (.ref 3), none] rfl (by
    refine am_q_aload_n rfl rfl ?_
    refine am_q_aload_n rfl rfl ?_
    obtain ⟨μ1, hc1, hf1, hm1⟩ := s_soulAt16 (d + 2) n i N nm ν hX hT hL h9 hN hn
    rw [hr] at hc1 hm1
    obtain ⟨rfl, hsN, h2⟩ := hm1
    refine am_q_call rfl rfl (hc1) rfl ?_
    refine am_q_istore_n [some _, some _, some _] rfl (Nat.le_of_ble_eq_true rfl) rfl ?_
    refine am_q_iload_n rfl rfl ?_
    refine am_q_iconst (v := -1) rfl rfl ?_
    refine am_q_icmp_eq rfl (fun c_8 => absurd (show nI s < 0 by rw [show nI s = -1 from c_8]; decide) (nI_pos (by omega))) (fun c_8 => ?_)
    refine am_q_aload_n rfl rfl ?_
    obtain ⟨μ2, ν2, hc2, hT2, hf2, hl2⟩ := s_step _ n (i + 1) ν hX hT.1 hT.2.1 hL
    refine am_q_call rfl rfl (hc2) rfl ?_
    refine am_q_iload_n rfl rfl ?_
    refine am_q_ireturn rfl rfl rfl ?_
    exact ⟨_, _, rfl, hT2, hf2, hl2, hsN⟩)
  obtain ⟨r, h1, μ', ν', h2, h3⟩ := key
  exact ⟨μ', ν', by rw [h1, h2], h3⟩

theorem s_passS0_16 (d : Nat) (n i N : Nat) (nm : Nat → Nat) {X : tTp} {μ : am_M2} (ν : am_N2) (hX : tpOk X) (hT : xTk μ ν X i) (hL : xLg ν) (h9 : μ 16 9 = nI N) (hN : N ≤ 6) (hn : ∀ s, s < N → ν 17 s = lN (nm s) ∧ nm s < 2 ^ 63) (c : Nat) (hr : pTold X nm N i = .inl c) : ∃ (μ' : am_M2), am_run (d + 5) 41 [.ref 16, .ref 3] (am_hp n μ ν) = some (some (.int (-1)), am_hp n μ' ν) ∧ frT3 μ μ' ∧ μ' 3 7 = nI c := by
  have key : ∃ r, am_run (d + 5) 41 [.ref 16, .ref 3] (am_hp n μ ν) = some r ∧ ∃ (μ' : am_M2), r = (some (.int (-1)), am_hp n μ' ν) ∧ frT3 μ μ' ∧ μ' 3 7 = nI c := am_run_wE (k := 41) (d := d + 4) rfl rfl (Nat.le_of_ble_eq_true rfl) [some (.ref 16), some (.ref 3), none] rfl (by
    refine am_q_aload_n rfl rfl ?_
    refine am_q_aload_n rfl rfl ?_
    obtain ⟨μ1, hc1, hf1, hm1⟩ := s_soulAt16 (d + 2) n i N nm ν hX hT hL h9 hN hn
    rw [hr] at hc1 hm1
    refine am_q_call rfl rfl (hc1) rfl ?_
    refine am_q_istore_n [some _, some _, some _] rfl (Nat.le_of_ble_eq_true rfl) rfl ?_
    refine am_q_iload_n rfl rfl ?_
    refine am_q_iconst (v := -1) rfl rfl ?_
    refine am_q_icmp_eq rfl (fun c_8 => ?_) (fun c_8 => absurd rfl c_8)
    refine am_q_iload_n rfl rfl ?_
    refine am_q_ireturn rfl rfl rfl ?_
    exact ⟨_, rfl, hf1, hm1⟩)
  obtain ⟨r, h1, μ', h2, h3⟩ := key
  exact ⟨μ', by rw [h1, h2], h3⟩

theorem s_snN5 (d n N w : Nat) (nm : Nat → Nat) (μ : am_M2) (ν : am_N2) (h9 : μ 5 9 = nI N) (hN : N ≤ 6) (hw : w < 2 ^ 63) (hn : ∀ s, s < N → ν 6 s = lN (nm s) ∧ nm s < 2 ^ 63) : ∀ (m j : Nat) , j + m = N → (∀ s, s < j → decide (nm s = w) = false) → am_w (d + 0) (Option.some FieldType.int) am_g36 2 [some (.ref 5), some (.long (lN w)), none, some (.int (nI j))] [] (am_hp n μ ν) (fun y => y = (some (.int (sn_place (fnd nm N w))), am_hp n μ ν)) := by
  intro m
  induction m with
  | zero =>
    intro j  hj hinv
    refine am_q_iload_n rfl rfl ?_
    refine am_q_aload_n rfl rfl ?_
    refine am_q_gi rfl rfl rfl h9 ?_
    refine am_q_igeN rfl (by omega) (by omega) (fun c_7 => ?_) (fun c_7 => absurd c_7 (by omega))
    refine am_q_iconst (v := -1) rfl rfl ?_
    refine am_q_ireturn rfl rfl rfl ?_
    unfold fnd; rw [if_neg (ff_no (fun s hs => hinv s (by omega)))]; rfl
  | succ m ih =>
    intro j  hj hinv
    refine am_q_iload_n rfl rfl ?_
    refine am_q_aload_n rfl rfl ?_
    refine am_q_gi rfl rfl rfl h9 ?_
    refine am_q_igeN rfl (by omega) (by omega) (fun c_7 => absurd c_7 (by omega)) (fun c_7 => ?_)
    refine am_q_aload_n rfl rfl ?_
    refine am_q_gr rfl rfl rfl ?_
    refine am_q_iload_n rfl rfl ?_
    refine am_q_lald rfl rfl (by first | exact am_ix_nI (by omega) (by omega) | rfl) (hn j (by omega)).1 ?_
    refine am_q_lload_n rfl rfl ?_
    refine am_q_lcmp rfl rfl ?_
    refine am_q_if_ne rfl (fun c_18 => ?_) (fun c_18 => ?_)
    · have hne : decide (nm j = w) = false := decide_eq_false (fun z => c_18 (lg0.mpr (by rw [z])))
      refine am_q_iinc [some _, some _, none, some _] rfl (c := nI 1) rfl rfl (Nat.le_of_ble_eq_true rfl) (nI_add _ _) rfl ?_
      refine am_q_goto rfl ?_
      exact ih (j + 1) (by omega) (fun r hr => by
                by_cases z : r = j
                · rw [z]; exact hne
                · exact hinv r (by omega))
    · refine am_q_iload_n rfl rfl ?_
      refine am_q_ireturn rfl rfl rfl ?_
      have he : nm j = w := (pk_lEQ (hn j (by omega)).2 hw).mp (lg0.mp c_18)
      unfold fnd
      rw [ff_yes (by omega) hinv (decide_eq_true he), if_pos (by omega)]; rfl

theorem s_soulNamed5 (d : Nat) (n N w : Nat) (nm : Nat → Nat) (μ : am_M2) (ν : am_N2) (h9 : μ 5 9 = nI N) (hN : N ≤ 6) (hw : w < 2 ^ 63) (hn : ∀ s, s < N → ν 6 s = lN (nm s) ∧ nm s < 2 ^ 63) : am_run (d + 1) 36 [.ref 5, .long (lN w)] (am_hp n μ ν) = some (some (.int (sn_place (fnd nm N w))), am_hp n μ ν) := by
  refine am_r36 (d := d + 0) (Nat.le_of_ble_eq_true rfl) [some (.ref 5), some (.long (lN w)), none, none] rfl ?_
  refine am_q_iconst (v := nI 0) rfl rfl ?_
  refine am_q_istore_n [some _, some _, none, some _] rfl (Nat.le_of_ble_eq_true rfl) rfl ?_
  exact s_snN5 d n N w nm μ ν h9 hN hw hn N 0 (by omega) (fun s hs => by omega)

theorem s_soulAt5 (d : Nat) (n i N : Nat) (nm : Nat → Nat) {X : tTp} {μ : am_M2} (ν : am_N2) (hX : tpOk X) (hT : xTk μ ν X i) (hL : xLg ν) (h9 : μ 5 9 = nI N) (hN : N ≤ 6) (hn : ∀ s, s < N → ν 6 s = lN (nm s) ∧ nm s < 2 ^ 63) : ∃ (μ' : am_M2), am_run (d + 2) 42 [.ref 5, .ref 3] (am_hp n μ ν) = some (some (.int (match pTold X nm N i with | .inl _ => -1 | .inr s => nI s)), am_hp n μ' ν) ∧ frT3 μ μ' ∧ (match pTold X nm N i with | .inl c => μ' 3 7 = nI c | .inr s => μ' = μ ∧ s < N ∧ kd X i = 2) := by
  have ht := tkc_lt X i
  have key : ∃ r, am_run (d + 2) 42 [.ref 5, .ref 3] (am_hp n μ ν) = some r ∧ ∃ (μ' : am_M2), r = (some (.int (match pTold X nm N i with | .inl _ => -1 | .inr s => nI s)), am_hp n μ' ν) ∧ frT3 μ μ' ∧ (match pTold X nm N i with | .inl c => μ' 3 7 = nI c | .inr s => μ' = μ ∧ s < N ∧ kd X i = 2) := am_run_wE (k := 42) (d := d + 1) rfl rfl (Nat.le_of_ble_eq_true rfl) [some (.ref 5), some (.ref 3), none] rfl (by
    refine am_q_iconst (v := -1) rfl rfl ?_
    refine am_q_istore_n [some _, some _, some _] rfl (Nat.le_of_ble_eq_true rfl) rfl ?_
    refine am_q_aload_n rfl rfl ?_
    refine am_q_gi rfl rfl rfl hT.2.2.2.1 ?_
    refine am_q_iconst (v := nI 2) rfl rfl ?_
    refine am_q_ieqN rfl (by omega) (by omega) (fun c_7 => ?_) (fun c_7 => ?_)
    · have hnm := tkc_n.mp c_7
      have h2 := nm_k hnm
      have hw := wd_63 hX h2
      refine am_q_aload_n rfl rfl ?_
      refine am_q_aload_n rfl rfl ?_
      refine am_q_gl rfl rfl rfl (hT.2.2.2.2.2 h2) ?_
      refine am_q_call rfl rfl (s_soulNamed5 _ n N (wd X i) nm μ ν h9 hN hw hn) rfl ?_
      refine am_q_istore_n [some _, some _, some _] rfl (Nat.le_of_ble_eq_true rfl) rfl ?_
      refine am_q_iload_n rfl rfl ?_
      refine am_q_iconst (v := -1) rfl rfl ?_
      refine am_q_icmp_ne rfl (fun c_30 => ?_) (fun c_30 => ?_)
      · obtain ⟨s, hs⟩ := pl_some c_30
        refine am_q_iload_n rfl rfl ?_
        refine am_q_ireturn rfl rfl rfl ?_
        have e : pTold X nm N i = .inr s := by unfold pTold; rw [if_neg (by rw [hnm]; decide), hs]
        rw [e, hs]
        exact ⟨_, rfl, frT3_rf μ, rfl, (fnd_lt hs).1, h2⟩
      · have hs := pl_none c_30 (fun k hk => by have := (fnd_lt hk).1; omega)
        refine am_q_aload_n rfl rfl ?_
        refine am_q_iconst (v := nI 2) rfl rfl ?_
        refine am_q_call rfl rfl (s_wrong _ 2 n i ν hT.2.2.1) rfl ?_
        refine am_q_popi rfl ?_
        refine am_q_iload_n rfl rfl ?_
        refine am_q_ireturn rfl rfl rfl ?_
        have e : pTold X nm N i = .inl (wr X i 2) := by unfold pTold; rw [if_neg (by rw [hnm]; decide), hs]
        rw [e, hs]
        exact ⟨_, rfl, frT3_7, am_up_eq⟩
    · have hnm : isNm X i = false := by cases hz : isNm X i with | false => rfl | true => exact absurd (tkc_n.mpr hz) c_7
      refine am_q_aload_n rfl rfl ?_
      refine am_q_iconst (v := nI 1) rfl rfl ?_
      refine am_q_call rfl rfl (s_wrong _ 1 n i ν hT.2.2.1) rfl ?_
      refine am_q_popi rfl ?_
      refine am_q_goto rfl ?_
      refine am_q_iload_n rfl rfl ?_
      refine am_q_ireturn rfl rfl rfl ?_
      have e : pTold X nm N i = .inl (wr X i 1) := by unfold pTold; rw [if_pos hnm]
      rw [e]
      exact ⟨_, rfl, frT3_7, am_up_eq⟩)
  obtain ⟨r, h1, μ', h2, h3⟩ := key
  exact ⟨μ', by rw [h1, h2], h3⟩

theorem s_passS1_5 (d : Nat) (n i N : Nat) (nm : Nat → Nat) {X : tTp} {μ : am_M2} (ν : am_N2) (hX : tpOk X) (hT : xTk μ ν X i) (hL : xLg ν) (h9 : μ 5 9 = nI N) (hN : N ≤ 6) (hn : ∀ s, s < N → ν 6 s = lN (nm s) ∧ nm s < 2 ^ 63) (s : Nat) (hr : pTold X nm N i = .inr s) : ∃ (μ' : am_M2) (ν' : am_N2), am_run (d + 5) 41 [.ref 5, .ref 3] (am_hp n μ ν) = some (some (.int (nI s)), am_hp n μ' ν') ∧ xTk μ' ν' X (i + 1) ∧ frK μ μ' ∧ frKL ν ν' ∧ s < N := by
  have key : ∃ r, am_run (d + 5) 41 [.ref 5, .ref 3] (am_hp n μ ν) = some r ∧ ∃ (μ' : am_M2) (ν' : am_N2), r = (some (.int (nI s)), am_hp n μ' ν') ∧ xTk μ' ν' X (i + 1) ∧ frK μ μ' ∧ frKL ν ν' ∧ s < N := am_run_wE (k := 41) (d := d + 4) rfl rfl (Nat.le_of_ble_eq_true rfl) [some (.ref 5), some (.ref 3), none] rfl (by
    refine am_q_aload_n rfl rfl ?_
    refine am_q_aload_n rfl rfl ?_
    obtain ⟨μ1, hc1, hf1, hm1⟩ := s_soulAt5 (d + 2) n i N nm ν hX hT hL h9 hN hn
    rw [hr] at hc1 hm1
    obtain ⟨rfl, hsN, h2⟩ := hm1
    refine am_q_call rfl rfl (hc1) rfl ?_
    refine am_q_istore_n [some _, some _, some _] rfl (Nat.le_of_ble_eq_true rfl) rfl ?_
    refine am_q_iload_n rfl rfl ?_
    refine am_q_iconst (v := -1) rfl rfl ?_
    refine am_q_icmp_eq rfl (fun c_8 => absurd (show nI s < 0 by rw [show nI s = -1 from c_8]; decide) (nI_pos (by omega))) (fun c_8 => ?_)
    refine am_q_aload_n rfl rfl ?_
    obtain ⟨μ2, ν2, hc2, hT2, hf2, hl2⟩ := s_step _ n (i + 1) ν hX hT.1 hT.2.1 hL
    refine am_q_call rfl rfl (hc2) rfl ?_
    refine am_q_iload_n rfl rfl ?_
    refine am_q_ireturn rfl rfl rfl ?_
    exact ⟨_, _, rfl, hT2, hf2, hl2, hsN⟩)
  obtain ⟨r, h1, μ', ν', h2, h3⟩ := key
  exact ⟨μ', ν', by rw [h1, h2], h3⟩

theorem s_passS0_5 (d : Nat) (n i N : Nat) (nm : Nat → Nat) {X : tTp} {μ : am_M2} (ν : am_N2) (hX : tpOk X) (hT : xTk μ ν X i) (hL : xLg ν) (h9 : μ 5 9 = nI N) (hN : N ≤ 6) (hn : ∀ s, s < N → ν 6 s = lN (nm s) ∧ nm s < 2 ^ 63) (c : Nat) (hr : pTold X nm N i = .inl c) : ∃ (μ' : am_M2), am_run (d + 5) 41 [.ref 5, .ref 3] (am_hp n μ ν) = some (some (.int (-1)), am_hp n μ' ν) ∧ frT3 μ μ' ∧ μ' 3 7 = nI c := by
  have key : ∃ r, am_run (d + 5) 41 [.ref 5, .ref 3] (am_hp n μ ν) = some r ∧ ∃ (μ' : am_M2), r = (some (.int (-1)), am_hp n μ' ν) ∧ frT3 μ μ' ∧ μ' 3 7 = nI c := am_run_wE (k := 41) (d := d + 4) rfl rfl (Nat.le_of_ble_eq_true rfl) [some (.ref 5), some (.ref 3), none] rfl (by
    refine am_q_aload_n rfl rfl ?_
    refine am_q_aload_n rfl rfl ?_
    obtain ⟨μ1, hc1, hf1, hm1⟩ := s_soulAt5 (d + 2) n i N nm ν hX hT hL h9 hN hn
    rw [hr] at hc1 hm1
    refine am_q_call rfl rfl (hc1) rfl ?_
    refine am_q_istore_n [some _, some _, some _] rfl (Nat.le_of_ble_eq_true rfl) rfl ?_
    refine am_q_iload_n rfl rfl ?_
    refine am_q_iconst (v := -1) rfl rfl ?_
    refine am_q_icmp_eq rfl (fun c_8 => ?_) (fun c_8 => absurd rfl c_8)
    refine am_q_iload_n rfl rfl ?_
    refine am_q_ireturn rfl rfl rfl ?_
    exact ⟨_, rfl, hf1, hm1⟩)
  obtain ⟨r, h1, μ', h2, h3⟩ := key
  exact ⟨μ', by rw [h1, h2], h3⟩
