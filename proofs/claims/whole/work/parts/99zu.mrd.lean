/-- what a reading that fails may change -/
def frRd (μ μ' : am_M2) : Prop := ∀ a b, ¬ (a = 133 ∧ (b = 0 ∨ b = 2 ∨ b = 3 ∨ b = 7 ∨ b = 8 ∨ b = 12)) → a ≠ 135 → a ≠ 136 → ¬ (a = 139 ∧ 50 ≤ b) → ¬ (a = 140 ∧ 1100 ≤ b) → μ' a b = μ a b
theorem mVal_Rd {μ μ' : am_M2} {V : sVal} (h6 : vN V ≤ 6) (h12 : vF V ≤ 12) (h : frRd μ μ') (hV : mVal μ V) : mVal μ' V := by
  obtain ⟨a1, a2, a3, a4, a5, a6, a7⟩ := hV
  have g : ∀ b, b < 50 → μ' 139 b = μ 139 b := fun b hb => h 139 b (by omega) (by omega) (by omega) (by omega) (by omega)
  have hm : mF V ≤ 12 := by unfold mF; split <;> omega
  refine ⟨(g 0 (by omega)).trans a1, (g 1 (by omega)).trans a2, (g 2 (by omega)).trans a3, (g 3 (by omega)).trans a4, fun s hs => ?_, fun j hj => (g _ (by omega)).trans (a6 j hj), ?_⟩
  · obtain ⟨b1, b2, b3, b4⟩ := a5 s hs
    exact ⟨(g _ (by omega)).trans b1, (g _ (by omega)).trans b2, (g _ (by omega)).trans b3, (g _ (by omega)).trans b4⟩
  · rcases a7 with ⟨b1, b2⟩ | ⟨i, b0, b1, b2, b3⟩
    · exact Or.inl ⟨(g 4 (by omega)).trans b1, b2⟩
    · exact Or.inr ⟨i, b0, (g 4 (by omega)).trans b1, fun j hj => (h 140 _ (by omega) (by omega) (by omega) (by omega) (by omega)).trans (b2 j hj), (h 140 _ (by omega) (by omega) (by omega) (by omega) (by omega)).trans b3⟩
theorem mR_Rd {μ μ' : am_M2} {V : sVal} {W : sWall} {U : List sWall} {K : Nat → Option (sWall × sSeen)} {S : sSeen} {Y : sYear} (h6 : vN V ≤ 6) (h12 : vF V ≤ 12) (h : frRd μ μ') (hR : mR μ V W U K S Y) : mR μ' V W U K S Y := by
  obtain ⟨hV, hW, hU, hK, hS, hY⟩ := hR
  have g : ∀ a b, 141 ≤ a → μ' a b = μ a b := fun a b ha => h a b (by omega) (by omega) (by omega) (by omega) (by omega)
  exact ⟨mVal_Rd h6 h12 h hV, mWall_c (fun k a b => g _ _ (by decide)) hW, mUndo_c (h 133 18 (by omega) (by omega) (by omega) (by omega) (by omega)) (fun k a b => g _ _ (by decide)) hU, mMk_c (fun m hm => g _ _ (by decide)) (fun k a b => g _ _ (by decide)) hK, mSeen_c (fun k a b => g _ _ (by decide)) hS, mYear_c (fun k => g _ _ (by decide)) hY⟩