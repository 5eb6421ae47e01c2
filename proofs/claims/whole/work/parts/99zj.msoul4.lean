theorem mDf_s {μ μ' : am_M2} {ν : am_N2} {D : dft} {w x s t : Nat} (hD : mDf μ ν D) (hG : dG D) (h6 : vN D.1 < 6) (h51 : μ' 139 51 = nI (vN D.1 + 1)) (h1 : μ' 139 (55 + 3 * vN D.1) = nI x) (h2 : μ' 139 (55 + 3 * vN D.1 + 1) = nI s) (h3 : μ' 139 (55 + 3 * vN D.1 + 2) = nI t) (hf : ∀ a b, ¬ (a = 133 ∧ b ≠ 12) → ¬ (a = 139 ∧ (b = 51 ∨ b = 55 + 3 * vN D.1 ∨ b = 55 + 3 * vN D.1 + 1 ∨ b = 55 + 3 * vN D.1 + 2)) → μ' a b = μ a b) (hw : wfW w) (hn : fnd D.2.1 (vN D.1) w = none) : mDf μ' (am_upL ν 141 (6 + vN D.1) (lN (cw w))) (dS D w x s t) := by
  have h12 := hG.1.1.2.2.1
  have hm : mF D.1 ≤ 12 := by unfold mF; split <;> omega
  have hF : ∀ {α : Type} (f : Nat → α) (a : Nat) (v : α), fup f a v a = v := fun f a v => if_pos rfl
  have hFn : ∀ {α : Type} (f : Nat → α) (a b : Nat) (v : α), b ≠ a → fup f a v b = f b := fun f a b v hb => if_neg hb
  have hne : ¬ (fnd D.2.1 (vN D.1) w).isSome = true := by rw [hn]; exact Bool.false_ne_true
  refine ⟨⟨(hf 139 50 (by omega) (by omega)).trans hD.1.1, h51, (hf 139 52 (by omega) (by omega)).trans hD.1.2.2.1, (hf 139 53 (by omega) (by omega)).trans hD.1.2.2.2.1, (hf 139 91 (by omega) (by omega)).trans hD.1.2.2.2.2⟩, fun s' hs' => ?_, fun s' hs' => (hf 139 _ (by omega) (by omega)).trans (hD.2.2.1 s' hs'), fun j hj => ?_, mDl_c hD.2.2.2.2.1 (hf 139 54 (by omega) (by omega)) (fun k _ => hf 140 k (by omega) (by omega)) (hf 133 12 (by omega) (by omega)) rfl rfl, fun s' hs' => ?_, fun a b ha hb hab => ?_⟩
  · have hs1 : s' < vN D.1 + 1 := hs'
    show μ' 139 (55 + 3 * s') = nI (fup (vK D.1) (vN D.1) x s') ∧ μ' 139 (55 + 3 * s' + 1) = nI (fup (vS D.1) (vN D.1) s s') ∧ μ' 139 (55 + 3 * s' + 2) = nI (fup (vD D.1) (vN D.1) t s')
    by_cases e : s' = vN D.1
    · rw [e, hF, hF, hF]; exact ⟨h1, h2, h3⟩
    · rw [hFn _ _ _ _ e, hFn _ _ _ _ e, hFn _ _ _ _ e]
      obtain ⟨a, b, c⟩ := hD.2.1 s' (by omega)
      exact ⟨(hf 139 _ (by omega) (by omega)).trans a, (hf 139 _ (by omega) (by omega)).trans b, (hf 139 _ (by omega) (by omega)).trans c⟩
  · have hj' : j < mF D.1 := hj
    exact (hf 139 _ (by omega) (by omega)).trans (hD.2.2.2.1 j hj)
  · have hs1 : s' < vN D.1 + 1 := hs'
    show am_upL ν 141 (6 + vN D.1) (lN (cw w)) 141 (6 + s') = lN (cw (fup D.2.1 (vN D.1) w s')) ∧ wfW (fup D.2.1 (vN D.1) w s')
    by_cases e : s' = vN D.1
    · rw [e, hF, upL_e]; exact ⟨rfl, hw⟩
    · rw [hFn _ _ _ _ e, upL_n (by omega)]; exact hD.2.2.2.2.2.1 s' (by omega)
  · have ha' : a < vN D.1 + 1 := ha
    have hb' : b < vN D.1 + 1 := hb
    have hab' : fup D.2.1 (vN D.1) w a = fup D.2.1 (vN D.1) w b := hab
    by_cases ea : a = vN D.1
    · by_cases eb : b = vN D.1
      · omega
      · rw [ea, hF, hFn _ _ _ _ eb] at hab'
        exact absurd hab'.symm (fnd_no hne b (by omega))
    · by_cases eb : b = vN D.1
      · rw [eb, hF, hFn _ _ _ _ ea] at hab'
        exact absurd hab' (fnd_no hne a (by omega))
      · rw [hFn _ _ _ _ ea, hFn _ _ _ _ eb] at hab'
        exact hD.2.2.2.2.2.2 a b (by omega) (by omega) hab'
theorem aft_p {X : tTp} {i r lo hi : Nat} (hh : hi < 2 ^ 31) : aftM X i r lo (nI hi) = if isWd X i r = false then .inl (wr X i 1) else pNum X (i + 1) lo hi := by
  unfold aftM
  rw [pNumI_N hh]
  cases h : isWd X i r with
  | true => rfl
  | false => rfl
theorem frMvL_n {ν : am_N2} {k : Nat} {v : Int64} (h : 6 ≤ k) : frMvL ν (am_upL ν 141 k v) := fun a b z => upL_n (by omega)
theorem m_readSoul (d n i : Nat) {X : tTp} {D : dft} {μ : am_M2} (ν : am_N2) (hX : tpOk X) (hP : mP μ ν X i) (hD : mDf μ ν D) (hG : dG D) (hw : isWd X i 1 = true) : ∃ y, am_run (d + 5) 192 [.ref 133] (am_hp n μ ν) = some y ∧ mvQ X n μ ν (pSoul X i D) y := by
  refine am_run_wE (k := 192) (d := d + 4) (vs := [.ref 133]) rfl rfl (Nat.le_of_ble_eq_true rfl) [some (.ref 133), none, none, none, none] rfl ?_
  have hi1 := tN_s hP.2.2.2.2 (wd_k hw)
  unfold pSoul
  by_cases h6 : 6 ≤ vN D.1
  · rw [if_pos h6]; exact m_soS1 d n i ν hX hP hD hG hw h6
  rw [if_neg h6]
  by_cases hm : isNm X (i + 1) = false
  · rw [if_pos hm]; exact m_soS2 d n i ν hX hP hD hG hw (by omega) hm
  rw [if_neg hm]
  have hm' : isNm X (i + 1) = true := by simpa using hm
  cases hf : fnd D.2.1 (vN D.1) (wd X (i + 1)) with
  | some s => exact m_soS3 d n i ν hX hP hD hG hw (by omega) hm' s hf
  | none =>
    rw [if_neg (by exact Bool.false_ne_true)]
    have hi2 := tN_s hi1 (nz (nm_k hm') (by decide))
    have hP2 : mP (am_up (am_up μ 133 7 (nI (i + 1))) 133 7 (nI (i + 2))) (am_upL ν 141 (6 + vN D.1) (lN (cw (wd X (i + 1))))) X (i + 2) := mP_c (mP_at (mP_at hP hi1) hi2) (fun k => ⟨rfl, rfl⟩) rfl rfl (fun k => ⟨upL_n (by omega), upL_n (by omega)⟩)
    have hf0 : frMv μ (am_up (am_up μ 133 7 (nI (i + 1))) 133 7 (nI (i + 2))) := frMv_tr (frMv_3 (by omega)) (frMv_3 (by omega))
    have hl0 : frMvL ν (am_upL ν 141 (6 + vN D.1) (lN (cw (wd X (i + 1))))) := frMvL_n (by omega)
    refine m_soP d n i ν hX hP hD hG hw (by omega) hm' hf _ ?_
    cases hk : isKd X (i + 2) with
    | none =>
      have hr : oneM X (i + 2) 11 4 = .inl (wr X (i + 2) 1) := by unfold oneM; rw [kd_wh, hk]
      obtain ⟨w0, w1⟩ := wr_b hX (i + 2) (k := 1) (by decide) (by decide)
      exact m_soT4 d n (i + 2) (vN D.1) hX hP2 (by omega) _ _ hr w0 w1 (mv_wr hX (by decide) (by decide) hf0 hl0 am_up_eq)
    | some x =>
      have hr : oneM X (i + 2) 11 4 = .inr x := by unfold oneM; rw [kd_wh, hk]
      have hk2 : kd X (i + 2) ≠ 0 := fun z => by have := (isKd_s hk).1; rw [tkc_0.mpr z] at this; omega
      have hi3 := tN_s hi2 hk2
      dsimp only
      have e2 := aft_p (X := X) (i := i + 2 + 1) (r := 2) (lo := 0) (hi := 20) (by decide)
      cases hr2 : aftM X (i + 2 + 1) 2 0 (nI 20) with
      | inl c =>
        rw [hr2] at e2
        have e3 : (if isWd X (i + 3) 2 = false then Sum.inl (wr X (i + 3) 1) else pNum X (i + 4) 0 20 : Nat ⊕ Nat) = .inl c := e2.symm
        by_cases z : isWd X (i + 3) 2 = false
        · rw [if_pos z] at e3 ⊢
          injection e3 with e3
          rw [e3]
          exact m_soT5 d n (i + 2) (vN D.1) hX hP2 (by omega) _ x c hr hi3 hr2 (fun μ2 i2 a1 a2 a3 a4 a5 => ⟨_, _, i2, rfl, a1, a3, a4, a2, frMv_tr hf0 a5, hl0⟩)
        · rw [if_neg z] at e3 ⊢
          rw [e3]
          exact m_soT5 d n (i + 2) (vN D.1) hX hP2 (by omega) _ x c hr hi3 hr2 (fun μ2 i2 a1 a2 a3 a4 a5 => ⟨_, _, i2, rfl, a1, a3, a4, a2, frMv_tr hf0 a5, hl0⟩)
      | inr s =>
        obtain ⟨-, b2, b3⟩ := aft_o (μ := μ) (by decide) hr2
        rw [if_neg (show ¬ isWd X (i + 3) 2 = false by rw [show isWd X (i + 3) 2 = true from b2]; exact fun z => by cases z), show pNum X (i + 4) 0 20 = .inr s from b3]
        dsimp only
        have e4 := aft_p (X := X) (i := i + 2 + 1 + 2) (r := 3) (lo := 0) (hi := 60) (by decide)
        cases hr3 : aftM X (i + 2 + 1 + 2) 3 0 (nI 60) with
        | inl c =>
          rw [hr3] at e4
          have e3 : (if isWd X (i + 5) 3 = false then Sum.inl (wr X (i + 5) 1) else pNum X (i + 6) 0 60 : Nat ⊕ Nat) = .inl c := e4.symm
          by_cases z : isWd X (i + 5) 3 = false
          · rw [if_pos z] at e3 ⊢
            injection e3 with e3
            rw [e3]
            exact m_soT6 d n (i + 2) (vN D.1) hX hP2 (by omega) _ x s hr hi3 hr2 c hr3 (fun μ2 i2 a1 a2 a3 a4 a5 => ⟨_, _, i2, rfl, a1, a3, a4, a2, frMv_tr hf0 a5, hl0⟩)
          · rw [if_neg z] at e3 ⊢
            rw [e3]
            exact m_soT6 d n (i + 2) (vN D.1) hX hP2 (by omega) _ x s hr hi3 hr2 c hr3 (fun μ2 i2 a1 a2 a3 a4 a5 => ⟨_, _, i2, rfl, a1, a3, a4, a2, frMv_tr hf0 a5, hl0⟩)
        | inr t =>
          obtain ⟨-, c2, c3⟩ := aft_o (μ := μ) (by decide) hr3
          rw [if_neg (show ¬ isWd X (i + 5) 3 = false by rw [show isWd X (i + 5) 3 = true from c2]; exact fun z => by cases z), show pNum X (i + 6) 0 60 = .inr t from c3]
          dsimp only
          refine m_soT7 d n (i + 2) (vN D.1) hX hP2 (by omega) _ x s hr hi3 hr2 t hr3 ((am_up_ne (by omega)).trans ((am_up_ne (by omega)).trans hD.1.2.1)) (fun μ2 a1 a2 a3 a4 a5 a6 a7 => ?_)
          exact ⟨_, _, rfl, a1, mDf_s hD hG (by omega) a3 a4 a5 a6 (fun a b z1 z2 => (a7 a b z1 z2).trans ((am_up_ne (by omega)).trans (am_up_ne (by omega)))) (wd_wf (nm_k hm')) hf, frMv_tr hf0 a2, hl0⟩