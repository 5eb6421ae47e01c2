/-! ===== the start ===== -/
abbrev am_ini1 (μ : am_M2) : Prop := μ 3 1 = nI 0 ∧ μ 133 2 = nI 0 ∧ μ 5 9 = nI 0 ∧ μ 5 8 = nI 0 ∧ μ 5 10 = nI 0 ∧ μ 5 11 = nI 0 ∧ (∀ s, s < 6 → μ 36 s = nI 0 ∧ μ 37 s = nI 0) ∧ μ 35 3 = nI 0 ∧ μ 41 4 = nI 0 ∧ μ 41 5 = nI 0 ∧ μ 41 3 = nI 0 ∧ μ 117 3 = nI 0 ∧ μ 117 2 = nI 0 ∧ μ 27 3 = nI 0
abbrev am_ini2 (μ : am_M2) : Prop := μ 139 0 = nI 0 ∧ μ 139 1 = nI 0 ∧ μ 139 2 = nI 0 ∧ μ 139 3 = nI 1 ∧ μ 139 4 = -1 ∧ μ 139 29 = nI 0 ∧ μ 145 0 = nI 0 ∧ (∀ s, s < 6 → μ 145 (1 + s) = nI 0 ∧ μ 145 (7 + s) = -1) ∧ μ 133 18 = nI 0 ∧ (∀ s, s < 4 → μ 146 s = nI 0) ∧ μ 145 13 = nI 0 ∧ μ 142 0 = nI 0
abbrev am_ini3 (ν : am_N2) : Prop := ∀ r, r < 22 → ν 138 r = lN (cw (lg r))
theorem am_start_3 : (match am_start with
  | some r => decide (am_ini1 r.2.2.2.2.2.2.1)
  | none => false) = true := by decide +kernel
theorem am_start_4 : (match am_start with
  | some r => decide (am_ini2 r.2.2.2.2.2.2.1)
  | none => false) = true := by decide +kernel
theorem am_start_5 : (match am_start with
  | some r => decide (am_ini3 r.2.2.2.2.2.2.2)
  | none => false) = true := by decide +kernel