theorem leaf_wh {X : tTp} {i : Nat} (h3 : ¬ kd X i = 3) : leafV X i = (whF X i 18 4).map (fun j => -1 - (j : Int)) := by
  cases h : whF X i 18 4 with
  | none =>
    have a := (whF_none 4).mp h
    unfold leafV
    rw [if_neg h3]
    by_cases h2 : kd X i = 2
    · have e : ∀ j, j < 4 → ¬ wd X i = lg (18 + j) := fun j hj z => by
        have := a j hj
        unfold isWd at this
        rw [decide_eq_true h2, decide_eq_true z] at this; cases this
      rw [if_pos h2, if_neg (e 0 (by decide)), if_neg (e 1 (by decide)), if_neg (e 2 (by decide)), if_neg (e 3 (by decide))]
      rfl
    · rw [if_neg h2]; rfl
  | some j =>
    obtain ⟨hj, hw⟩ := whF_lt 4 j h
    unfold isWd at hw
    rw [Bool.and_eq_true] at hw
    unfold leafV
    rw [if_neg h3, if_pos (of_decide_eq_true hw.1), of_decide_eq_true hw.2]
    rcases (show j = 0 ∨ j = 1 ∨ j = 2 ∨ j = 3 by omega) with rfl | rfl | rfl | rfl <;> decide
theorem enc_j : ∀ j : Nat, j < 4 → 2 + 16 * j = mEnc (-1 - (j : Int)) := by decide
theorem enc_n (v : Nat) : 1 + 16 * v = mEnc (v : Int) := by unfold mEnc; rw [if_pos (by omega)]; rfl
theorem tpC_l {X : tTp} {i : Nat} : tpC X i ↔ ((leafV X i).isSome = true ∨ isWd X i 15 = true ∨ isSg X i 40 = true) := by
  have e : (leafV X i).isSome = true ↔ kd X i = 3 ∨ whF X i 18 4 ≠ none := by
    by_cases h3 : kd X i = 3
    · unfold leafV; rw [if_pos h3]; exact ⟨fun _ => Or.inl h3, fun _ => rfl⟩
    · rw [leaf_wh h3]
      cases whF X i 18 4 with
      | none => exact ⟨fun z => (by cases z), fun z => z.elim (fun q => absurd q h3) (fun q => absurd rfl q)⟩
      | some j => exact ⟨fun _ => Or.inr (fun q => by cases q), fun _ => rfl⟩
  unfold tpC
  rw [e]
  constructor
  · rintro (a | a | a | a)
    · exact Or.inl (Or.inr a)
    · exact Or.inl (Or.inl a)
    · exact Or.inr (Or.inr a)
    · exact Or.inr (Or.inl a)
  · rintro ((a | a) | a | a)
    · exact Or.inr (Or.inl a)
    · exact Or.inl a
    · exact Or.inr (Or.inr (Or.inr a))
    · exact Or.inr (Or.inr (Or.inl a))
theorem ml_wr {X : tTp} (hX : tpOk X) {n i kk : Nat} {p : List Int} {μ : am_M2} {ν : am_N2} (h0 : 0 < kk) (h1 : kk < 10) (hP : mP μ ν X i) (hS : mSt μ p) : mlQ X n μ ν i p (.inl (wr X i kk)) (none, am_hp n (am_up μ 133 8 (nI (wr X i kk))) ν) := by
  obtain ⟨w0, w1⟩ := wr_b hX i h0 h1
  exact ⟨_, i, p.length, rfl, am_up_eq, w0, w1, (am_up_ne (by omega)).trans hP.2.2.1, hP.2.2.2.2, (am_up_ne (by omega)).trans hS.1, Nat.le_refl _, frMl_up (by omega)⟩
theorem m_wholeC (d n dp : Nat) {X : tTp} (hX : tpOk X) (P : Nat → List Int → Nat ⊕ pSt) (hG : pGd X P) (hC : mlC X n (d + 3) P 209 [.int (nI dp)]) : mlC X n (d + 7) (lv0 X P) 205 [.int (nI dp)] :=
  m_whole (d + 3) n dp hX _ (lev_gd (lev_gd (lev_gd hG))) (m_test (d + 2) n dp hX _ (lev_gd (lev_gd hG)) (m_sums (d + 1) n dp hX _ (lev_gd hG) (m_products d n dp hX P hG hC)))
theorem nw_l {X : tTp} {i : Nat} {x : Int} (h : leafV X i = some x) : isWd X i 15 = false ∧ isSg X i 40 = false := by
  have h15 : lg 15 ≠ lg 18 ∧ lg 15 ≠ lg 19 ∧ lg 15 ≠ lg 20 ∧ lg 15 ≠ lg 21 := by decide
  unfold leafV at h
  by_cases h3 : kd X i = 3
  · refine ⟨?_, ?_⟩
    · unfold isWd; rw [h3]; rfl
    · unfold isSg; rw [h3]; rfl
  · rw [if_neg h3] at h
    by_cases h2 : kd X i = 2
    · rw [if_pos h2] at h
      refine ⟨?_, ?_⟩
      · unfold isWd
        by_cases e : wd X i = lg 15
        · rw [e, if_neg h15.1, if_neg h15.2.1, if_neg h15.2.2.1, if_neg h15.2.2.2] at h; cases h
        · rw [decide_eq_false e, Bool.and_false]
      · unfold isSg; rw [h2]; rfl
    · rw [if_neg h2] at h; cases h
theorem m_part {X : tTp} (hX : tpOk X) (n : Nat) : ∀ r d, r ≤ 5 → mlC X n (d + 5 * r + 4) (pPart X r) 209 [.int (nI (5 - r))] := by
  intro r
  induction r with
  | zero =>
    intro d _ i p μ ν hP hS hl
    refine am_run_wE (k := 209) (d := d + 3) (vs := [.ref 133, .int (nI 5)]) rfl rfl (Nat.le_of_ble_eq_true rfl) [some (.ref 133), some (.int (nI 5)), none, none] rfl ?_
    unfold pPart
    by_cases hC : tpC X i
    · rw [if_pos (tpC_l.mp hC)]; exact m_tp5 d n 5 i hX hP (by decide) hC rfl _ (ml_wr hX (by decide) (by decide) hP hS)
    · rw [if_neg (fun z => hC (tpC_l.mpr z))]; exact m_tpX d n 5 i hX hP (by decide) hC _ (ml_wr hX (by decide) (by decide) hP hS)
  | succ r ih =>
    intro d hr5 i p μ ν hP hS hl
    have hN := tN_1k hX
    have hiN := hP.2.2.2.2
    refine am_run_wE (k := 209) (d := d + 5 * r + 5 + 3) (vs := [.ref 133, .int (nI (5 - (r + 1)))]) rfl rfl (Nat.le_of_ble_eq_true rfl) [some (.ref 133), some (.int (nI (5 - (r + 1)))), none, none] rfl ?_
    have hdp : 5 - (r + 1) + 1 = 5 - r := by omega
    unfold pPart
    by_cases hC : tpC X i
    · refine m_tpC (d + 5 * r + 5) n (5 - (r + 1)) i hX hP (by omega) hC (by omega) _ ?_
      cases hl2 : leafV X i with
      | some x =>
        obtain ⟨n1, n2⟩ := nw_l hl2
        have hi1 := tN_s hiN (leaf_k hl2)
        by_cases h3 : kd X i = 3
        · rw [if_pos h3]
          have hx : x = (nu X i : Int) := by unfold leafV at hl2; rw [if_pos h3] at hl2; injection hl2 with z; exact z.symm
          refine m_tpL1 (d + 5 * r + 5) n (5 - (r + 1)) i p.length hX hP hS.1 (by omega) n1 n2 h3 _ _ ?_
          exact ⟨_, rfl, mP_at (mP_e hP) hi1, mSt_7 (by decide) (mSt_e (by rw [hx]; exact enc_n _) hS), frMl_tr frMl_em (frMl_up (by omega))⟩
        · rw [if_neg h3]
          rw [leaf_wh h3] at hl2
          cases hw : whF X i 18 4 with
          | none => rw [hw] at hl2; cases hl2
          | some j =>
            rw [hw] at hl2
            have hx : x = -1 - (j : Int) := by injection hl2 with z; exact z.symm
            have hj := (whF_lt 4 j hw).1
            refine m_tpL2 (d + 5 * r + 5) n (5 - (r + 1)) i p.length hX hP hS.1 (by omega) n1 n2 j _ ?_
            exact ⟨_, rfl, mP_at (mP_e hP) hi1, mSt_7 (by decide) (mSt_e (by rw [hx]; exact enc_j j hj) hS), frMl_tr frMl_em (frMl_up (by omega))⟩
      | none =>
        show am_w _ _ _ _ _ _ _ (mlQ X n μ ν i p (if isSg X i 40 = true then _ else _))
        by_cases h4 : isSg X i 40 = true
        · rw [if_pos h4]
          have hi1 := tN_s hiN (sg_k h4)
          have h15 : isWd X i 15 = false := by
            unfold isSg at h4; rw [Bool.and_eq_true] at h4
            unfold isWd; rw [of_decide_eq_true h4.1]; rfl
          refine m_tpS (d + 5 * r + 5) n (5 - (r + 1)) i hX hP _ _ h15 h4 _ ?_
          rw [hdp]
          obtain ⟨y, hy, hq⟩ := m_wholeC (d + 5 * r + 1) n (5 - r) hX (pPart X r) (part_gd X r) (ih d (by omega)) (i + 1) p _ ν (mP_at hP hi1) (mSt_7 (k := 7) (by decide) hS) (by omega)
          cases hr : lv0 X (pPart X r) (i + 1) p with
          | inl c =>
            rw [hr] at hq
            obtain ⟨μ2, i2, L2, rfl, b1, b2, b3, b4, b5, b6, b7, b8⟩ := hq
            refine am_q_call rfl rfl hy rfl ?_
            exact m_tpSF (d + 5 * r + 5) (5 - (r + 1)) _ _ n c ν b2 (by omega) b1 _ ⟨μ2, i2, L2, rfl, b1, b2, b3, b4, b5, b6, by omega, frMl_tr (frMl_up (by omega)) b8⟩
          | inr q =>
            rw [hr] at hq
            obtain ⟨μ2, rfl, b1, b2, b3⟩ := hq
            obtain ⟨g1, g2, g3⟩ := lv0_gd (part_gd X r) (i + 1) p q hi1 hr
            refine am_q_call rfl rfl hy rfl ?_
            refine m_tpS2 (d + 5 * r + 5) n (5 - (r + 1)) q.1 hX b1 _ _ _ ?_
            show mlQ X n μ ν i p (if isSg X q.1 41 = true then .inr (q.1 + 1, q.2) else .inl (wr X q.1 1)) _
            have hfr := frMl_tr (frMl_up (μ := μ) (k := 7) (v := nI (i + 1)) (by omega)) b3
            by_cases h1 : isSg X q.1 41 = true
            · rw [if_pos h1, if_pos h1]
              exact ⟨_, rfl, mP_at b1 (tN_s g2 (sg_k h1)), mSt_7 (by decide) b2, frMl_tr hfr (frMl_up (by omega))⟩
            · rw [if_neg h1, if_neg h1]
              exact mlQ_tr hfr (by omega) (ml_wr hX (by decide) (by decide) b1 b2)
        · rw [if_neg h4]
          by_cases h15 : isWd X i 15 = true
          · rw [if_pos h15]
            have hi1 := tN_s hiN (wd_k h15)
            refine m_tpN (d + 5 * r + 5) n (5 - (r + 1)) i hX hP _ _ h15 _ ?_
            rw [hdp]
            obtain ⟨y, hy, hq⟩ := ih (d + 4) (by omega) (i + 1) p _ ν (mP_at hP hi1) (mSt_7 (k := 7) (by decide) hS) (by omega)
            rw [show d + 4 + 5 * r + 4 = d + 5 * r + 5 + 3 by omega] at hy
            cases hr : pPart X r (i + 1) p with
            | inl c =>
              rw [hr] at hq
              obtain ⟨μ2, i2, L2, rfl, b1, b2, b3, b4, b5, b6, b7, b8⟩ := hq
              refine am_q_call rfl rfl hy rfl ?_
              refine m_tpN2 (d + 5 * r + 5) n (5 - (r + 1)) L2 _ _ b6 (by omega) _ ?_
              exact ⟨_, i2, L2 + 1, rfl, (am_up_ne (by omega)).trans ((am_up_ne (by omega)).trans b1), b2, b3, (am_up_ne (by omega)).trans ((am_up_ne (by omega)).trans b4), b5, am_up_eq, by omega, frMl_tr (frMl_tr (frMl_up (by omega)) b8) frMl_em⟩
            | inr q =>
              rw [hr] at hq
              obtain ⟨μ2, rfl, b1, b2, b3⟩ := hq
              obtain ⟨g1, g2, g3⟩ := part_gd X r (i + 1) p q hi1 hr
              refine am_q_call rfl rfl hy rfl ?_
              refine m_tpN2 (d + 5 * r + 5) n (5 - (r + 1)) q.2.length _ _ b2.1 (by omega) _ ?_
              exact ⟨_, rfl, mP_e b1, mSt_e (x := -5) rfl b2, frMl_tr (frMl_tr (frMl_up (by omega)) b3) frMl_em⟩
          · exfalso
            rcases tpC_l.mp hC with z | z | z
            · rw [hl2] at z; cases z
            · exact h15 z
            · exact h4 z
    · have hn := fun z => hC (tpC_l.mpr z)
      have e1 : leafV X i = none := by
        cases q : leafV X i with
        | none => rfl
        | some x => exact absurd (Or.inl (by rw [q]; rfl)) hn
      rw [e1]
      show am_w _ _ _ _ _ _ _ (mlQ X n μ ν i p (if isSg X i 40 = true then _ else _))
      rw [if_neg (fun z => hn (Or.inr (Or.inr z))), if_neg (fun z => hn (Or.inr (Or.inl z)))]
      exact m_tpX (d + 5 * r + 5) n (5 - (r + 1)) i hX hP (by omega) hC _ (ml_wr hX (by decide) (by decide) hP hS)
theorem m_lawC {X : tTp} (hX : tpOk X) (n d : Nat) : mlC X n (d + 33) (lv0 X (pPart X 5)) 205 [.int (nI 0)] := m_wholeC (d + 26) n 0 hX _ (part_gd X 5) (m_part hX n 5 d (by decide))