theorem mDf_7 {μ : am_M2} {ν : am_N2} {D : dft} {v : Int32} (hD : mDf μ ν D) : mDf (am_up μ 133 7 v) ν D :=
  ⟨⟨(am_up_ne (by omega)).trans hD.1.1, (am_up_ne (by omega)).trans hD.1.2.1, (am_up_ne (by omega)).trans hD.1.2.2.1, (am_up_ne (by omega)).trans hD.1.2.2.2.1, (am_up_ne (by omega)).trans hD.1.2.2.2.2⟩, fun s hs => ⟨(am_up_ne (by omega)).trans (hD.2.1 s hs).1, (am_up_ne (by omega)).trans (hD.2.1 s hs).2.1, (am_up_ne (by omega)).trans (hD.2.1 s hs).2.2⟩, fun s hs => (am_up_ne (by omega)).trans (hD.2.2.1 s hs), fun j hj => (am_up_ne (by omega)).trans (hD.2.2.2.1 j hj), mDl_c hD.2.2.2.2.1 (am_up_ne (by omega)) (fun k _ => am_up_ne (by omega)) (am_up_ne (by omega)) rfl rfl, hD.2.2.2.2.2⟩
def mvK (X : tTp) (n d : Nat) (μ : am_M2) (ν : am_N2) (Q : am_R → Prop) (r : Nat ⊕ dft) : Prop := match r with
  | .inl c => ∀ μ' ν', μ' 133 8 = nI c → 0 < c → c < 2 ^ 20 → frMv μ μ' → frMvL ν ν' → am_w (d + 34) (Option.some FieldType.int) am_g184 52 [some (.ref 133), none] [] (am_hp n μ' ν') Q
  | .inr E => ∀ μ' ν', μ' 133 8 = nI 0 → mDf μ' ν' E → dG E → frMv μ μ' → frMvL ν ν' → am_w (d + 34) (Option.some FieldType.int) am_g184 52 [some (.ref 133), none] [] (am_hp n μ' ν') Q
theorem mvK_tr {X : tTp} {n d : Nat} {μ μ1 : am_M2} {ν ν1 : am_N2} {Q : am_R → Prop} {r : Nat ⊕ dft} (h : frMv μ μ1) (hl : frMvL ν ν1) (K : mvK X n d μ ν Q r) : mvK X n d μ1 ν1 Q r := by
  unfold mvK at K ⊢
  cases r with
  | inl c => exact fun μ' ν' a b c e f => K μ' ν' a b c (frMv_tr h e) (frMvL_tr hl f)
  | inr E => exact fun μ' ν' a b c e f => K μ' ν' a b c (frMv_tr h e) (frMvL_tr hl f)
theorem m_vaL (d n : Nat) {X : tTp} (hX : tpOk X) (Q : am_R → Prop) : ∀ (m i : Nat) (D : dft) (μ : am_M2) (ν : am_N2), mP μ ν X i → mDf μ ν D → dG D → tN X ≤ i + m → mvK X n d μ ν Q (pRd X m i D) → am_w (d + 34) (Option.some FieldType.int) am_g184 20 [some (.ref 133), none] [] (am_hp n μ ν) Q := by
  intro m
  induction m with
  | zero =>
    intro i D μ ν hP hD hG hm K
    have hi := hP.2.2.2.2
    have hk : kd X i = 0 := by rw [show i = tN X by omega]; exact tN_0 X
    exact m_vaE d n i hX hP Q hk (K μ ν hP.2.2.2.1 hD hG (frMv_rf μ) (frMvL_rf ν))
  | succ m ih =>
    intro i D μ ν hP hD hG hm K
    unfold pRd at K
    by_cases hk : kd X i = 0
    · rw [if_pos hk] at K
      exact m_vaE d n i hX hP Q hk (K μ ν hP.2.2.2.1 hD hG (frMv_rf μ) (frMvL_rf ν))
    · rw [if_neg hk] at K
      refine m_vaN d n i hX hP Q hk ?_
      obtain ⟨y, hy, hq⟩ := m_readLine d n i ν hX hP hD hG
      cases hr : pLine X i D with
      | inl c =>
        rw [hr] at hq K
        obtain ⟨μ2, ν2, i2, rfl, b1, b2, b3, b4, b5, b6⟩ := hq
        refine am_q_call rfl rfl hy rfl ?_
        exact m_vaG d n c b2 b3 b1 Q (K μ2 ν2 b1 b2 b3 b5 b6)
      | inr q =>
        rw [hr] at hq K
        obtain ⟨μ2, ν2, rfl, b1, b2, b3, b4⟩ := hq
        obtain ⟨g1, g2, g3⟩ := pLine_g hX hG hP.2.2.2.2 hr
        refine am_q_call rfl rfl hy rfl ?_
        refine m_vaS d n q.1 hX b1 Q ?_
        dsimp only at K
        by_cases hs : isSg X q.1 59 = true
        · rw [if_pos hs] at K ⊢
          exact ih (q.1 + 1) q.2 _ ν2 (mP_at b1 (tN_s g2 (sg_k hs))) (mDf_7 b2) g3 (by omega) (mvK_tr (frMv_tr b3 (frMv_3 (by omega))) b4 K)
        · rw [if_neg hs] at K ⊢
          obtain ⟨w0, w1⟩ := wr_b hX q.1 (k := 1) (by decide) (by decide)
          exact m_vaF d n _ w0 w1 am_up_eq Q (K _ ν2 am_up_eq w0 w1 (frMv_tr b3 (frMv_3 (by omega))) b4)