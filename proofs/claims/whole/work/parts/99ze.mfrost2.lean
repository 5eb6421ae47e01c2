theorem mvQ_tr {X : tTp} {n : Nat} {μ μ1 : am_M2} {ν ν1 : am_N2} {r : Nat ⊕ (Nat × dft)} {y : am_R} (h : frMv μ μ1) (hl : frMvL ν ν1) (hq : mvQ X n μ1 ν1 r y) : mvQ X n μ ν r y := by
  unfold mvQ at hq ⊢
  cases r with
  | inl c => obtain ⟨μ', ν', i', a, b, c, e, f, g, g2⟩ := hq; exact ⟨μ', ν', i', a, b, c, e, f, frMv_tr h g, frMvL_tr hl g2⟩
  | inr q => obtain ⟨μ', ν', a, b, c, e, f⟩ := hq; exact ⟨μ', ν', a, b, c, frMv_tr h e, frMvL_tr hl f⟩
def mDg (μ : am_M2) (ν : am_N2) (D : dft) : Prop := (μ 139 50 = nI (vP D.1) ∧ μ 139 51 = nI (vN D.1) ∧ μ 139 52 = nI (vQ D.1) ∧ μ 139 91 = nI ((if 0 < vP D.1 then 1 else 0) + 2 + (if D.2.2 = true then 4 else 0))) ∧ (∀ s, s < vN D.1 → μ 139 (55 + 3 * s) = nI (vK D.1 s) ∧ μ 139 (55 + 3 * s + 1) = nI (vS D.1 s) ∧ μ 139 (55 + 3 * s + 2) = nI (vD D.1 s)) ∧ (∀ s, s < 6 → μ 139 (73 + s) = nI (vH D.1 s)) ∧ (∀ j, j < vF D.1 → μ 139 (79 + j) = nI (vR D.1 j)) ∧ mDl μ D ∧ mNmR ν 6 D.2.1 (vN D.1)
theorem mDg_f {μ μ' : am_M2} {ν : am_N2} {D : dft} (hD : mDg μ ν D) (h0 : 0 < vF D.1) (h53 : μ' 139 53 = nI (vF D.1)) (hf : ∀ a k, ¬ (a = 133 ∧ k ≠ 12) → ¬ (a = 139 ∧ k = 53) → μ' a k = μ a k) (hO : dOk D) : mDf μ' ν D := by
  have h6 := hO.1.1
  have h12 := hO.1.2.2.1
  have hm : mF D.1 = vF D.1 := by unfold mF; rw [if_pos h0]
  refine ⟨⟨(hf 139 50 (by omega) (by omega)).trans hD.1.1, (hf 139 51 (by omega) (by omega)).trans hD.1.2.1, (hf 139 52 (by omega) (by omega)).trans hD.1.2.2.1, by rw [hm]; exact h53, ?_⟩, fun s hs => ?_, fun s hs => (hf 139 _ (by omega) (by omega)).trans (hD.2.2.1 s hs), fun j hj => ?_, mDl_c hD.2.2.2.2.1 (hf 139 54 (by omega) (by omega)) (fun k _ => hf 140 k (by omega) (by omega)) (hf 133 12 (by omega) (by omega)) rfl rfl, hD.2.2.2.2.2⟩
  · rw [hf 139 91 (by omega) (by omega), hD.1.2.2.2]; unfold onB; rw [if_pos h0]
  · obtain ⟨a, b, c⟩ := hD.2.1 s hs
    exact ⟨(hf 139 _ (by omega) (by omega)).trans a, (hf 139 _ (by omega) (by omega)).trans b, (hf 139 _ (by omega) (by omega)).trans c⟩
  · rw [hm] at hj
    rw [if_pos h0]
    exact (hf 139 _ (by omega) (by omega)).trans (hD.2.2.2.1 j hj)
theorem mDg_s {μ μ' : am_M2} {ν : am_N2} {D : dft} {v : Nat} (hD : mDg μ ν D) (hv : μ' 139 (79 + vF D.1) = nI v) (hf : ∀ a k, ¬ (a = 133 ∧ k ≠ 12) → ¬ (a = 139 ∧ k = 79 + vF D.1) → μ' a k = μ a k) (hO : dOk D) (h12 : vF D.1 < 12) : mDg μ' ν (dF D v) := by
  have h6 := hO.1.1
  refine ⟨⟨(hf 139 50 (by omega) (by omega)).trans hD.1.1, (hf 139 51 (by omega) (by omega)).trans hD.1.2.1, (hf 139 52 (by omega) (by omega)).trans hD.1.2.2.1, (hf 139 91 (by omega) (by omega)).trans hD.1.2.2.2⟩, fun s hs => ?_, fun s hs => (hf 139 _ (by omega) (by omega)).trans (hD.2.2.1 s hs), fun j hj => ?_, mDl_c hD.2.2.2.2.1 (hf 139 54 (by omega) (by omega)) (fun k _ => hf 140 k (by omega) (by omega)) (hf 133 12 (by omega) (by omega)) rfl rfl, hD.2.2.2.2.2⟩
  · have hs' : s < vN D.1 := hs
    obtain ⟨a, b, c⟩ := hD.2.1 s hs
    exact ⟨(hf 139 _ (by omega) (by omega)).trans a, (hf 139 _ (by omega) (by omega)).trans b, (hf 139 _ (by omega) (by omega)).trans c⟩
  · have hj' : j < vF D.1 + 1 := hj
    show μ' 139 (79 + j) = nI (fup (vR D.1) (vF D.1) v j)
    unfold fup
    by_cases z : j = vF D.1
    · rw [if_pos z, z]; exact hv
    · rw [if_neg z]; exact (hf 139 _ (by omega) (by omega)).trans (hD.2.2.2.1 j (by omega))
def pFrM (X : tTp) (m j : Nat) (D : dft) : Nat ⊕ (Nat × dft) := match pCold X j D with
  | .inl c => .inl c
  | .inr q => pFrL X m q.1 q.2
theorem m_rfL (d n : Nat) {X : tTp} (hX : tpOk X) : ∀ (m j : Nat) (D : dft) (μ : am_M2) (ν : am_N2) (o2 : Option Value), mP μ ν X j → mDg μ ν D → dG D → tN X ≤ j + m → am_w (d + 3) (Option.none : Option FieldType) am_g204 2 [some (.ref 133), some (.int (nI (vF D.1))), o2] [] (am_hp n μ ν) (mvQ X n μ ν (pFrM X m j D)) := by
  intro m
  induction m with
  | zero =>
    intro j D μ ν o2 hP hD hG hm
    have hj := hP.2.2.2.2
    have hk : kd X j = 0 := by rw [show j = tN X by omega]; exact tN_0 X
    have hr : pNum X j 0 9 = .inl (wr X j 1) := by unfold pNum; rw [if_pos (by rw [hk]; decide)]
    obtain ⟨b1, b2⟩ := wr_b hX j (k := 1) (by decide) (by decide)
    unfold pFrM pCold
    rw [hr]
    exact m_rfA d n j (vF D.1) hX hP hG.1.1.2.2.1 o2 _ hr _ ⟨_, _, j, rfl, (am_up_ne (by omega)).trans am_up_eq, b1, b2, (am_up_ne (by omega)).trans ((am_up_ne (by omega)).trans hP.2.2.1), frMv_tr (frMv_3 (by omega)) (frMv_9 (by omega)), frMvL_rf ν⟩
  | succ m ih =>
    intro j D μ ν o2 hP hD hG hm
    have hj := hP.2.2.2.2
    have h12 := hG.1.1.2.2.1
    unfold pFrM pCold
    cases hr : pNum X j 0 9 with
    | inl c =>
      obtain ⟨b1, b2⟩ := pNum_b hX hr
      exact m_rfA d n j (vF D.1) hX hP h12 o2 c hr _ ⟨_, _, j, rfl, (am_up_ne (by omega)).trans am_up_eq, b1, b2, (am_up_ne (by omega)).trans ((am_up_ne (by omega)).trans hP.2.2.1), frMv_tr (frMv_3 (by omega)) (frMv_9 (by omega)), frMvL_rf ν⟩
    | inr v =>
      have hj1 := tN_s hj (nz (pN_k hr) (by decide))
      dsimp only
      by_cases h : 12 ≤ vF D.1
      · rw [if_pos h]
        obtain ⟨b1, b2⟩ := wr_b hX j (k := 5) (by decide) (by decide)
        exact m_rfB d n j (vF D.1) hX hP h12 o2 v hr (by omega) _ ⟨_, _, j, rfl, (am_up_ne (by omega)).trans am_up_eq, b1, b2, (am_up_ne (by omega)).trans ((am_up_ne (by omega)).trans am_up_eq), frMv_tr (frMv_tr (frMv_tr (frMv_3 (by omega)) (frMv_3 (by omega))) (frMv_3 (by omega))) (frMv_9 (by omega)), frMvL_rf ν⟩
      · rw [if_neg h]
        dsimp only
        have hcold : pCold X j D = .inr (j + 1, dF D v) := by unfold pCold; rw [hr]; exact if_neg h
        have hG1 := (pCold_g hG hj hcold).2.2
        have hP1 : mP (am_up (am_up μ 133 7 (nI (j + 1))) 139 (79 + vF D.1) (nI v)) ν X (j + 1) := mP_c (mP_at hP hj1) (fun k => ⟨am_up_ne (by omega), am_up_ne (by omega)⟩) (am_up_ne (by omega)) (am_up_ne (by omega)) (fun k => ⟨rfl, rfl⟩)
        have hD1 : mDg (am_up (am_up μ 133 7 (nI (j + 1))) 139 (79 + vF D.1) (nI v)) ν (dF D v) := mDg_s hD am_up_eq (fun a k z1 z2 => (am_up_ne (by omega)).trans (am_up_ne (by omega))) hG.1 (by omega)
        have hf1 : frMv μ (am_up (am_up μ 133 7 (nI (j + 1))) 139 (79 + vF D.1) (nI v)) := frMv_tr (frMv_3 (by omega)) (frMv_9 (by omega))
        refine m_rfC d n j (vF D.1) hX hP h12 o2 v hr (by omega) _ (fun hk => ?_) (fun hk => ?_)
        · cases m with
          | zero => exact absurd (tN_s hj1 (nz hk (by decide))) (by omega)
          | succ m =>
            have e : pFrL X (m + 1 + 1) (j + 1) (dF D v) = pFrM X (m + 1) (j + 1) (dF D v) := by
              show (if kd X (j + 1) = 3 then _ else _) = _
              rw [if_pos hk]; rfl
            rw [e]
            exact am_w_mono (fun r hr => mvQ_tr hf1 (frMvL_rf ν) hr) (ih (j + 1) (dF D v) _ ν _ hP1 hD1 hG1 (by omega))
        · have e : pFrL X (m + 1) (j + 1) (dF D v) = .inr (j + 1, dF D v) := by
            show (if kd X (j + 1) = 3 then _ else _) = _
            rw [if_neg hk]
          rw [e]
          exact ⟨_, _, rfl, mP_c hP1 (fun k => ⟨am_up_ne (by omega), am_up_ne (by omega)⟩) (am_up_ne (by omega)) (am_up_ne (by omega)) (fun k => ⟨rfl, rfl⟩), mDg_f hD1 (Nat.succ_pos _) am_up_eq (fun a k z1 z2 => am_up_ne (by omega)) hG1.1, frMv_tr hf1 (frMv_9 (by omega)), frMvL_rf ν⟩