theorem s_ylT0 (d e : Nat) (n i : Nat) {X : tTp} {V : sVal} {nm : Nat → Nat} {Y : sYear} {μ μ1 : am_M2} {ν ν1 : am_N2} (hX : tpOk X) (hT : xTk μ1 ν1 X (i + 1)) (hL : xLg ν1) (hV : xVal μ V) (hn : ∀ s, s < vN V → ν 6 s = lN (nm s) ∧ nm s < 2 ^ 63) (hY : xYd μ Y) (h5 : Y.1 < 40) (hA : ylA μ μ1 Y e) (hl1 : frKL ν ν1) (he : e = 0) : am_w (d + 6) (Option.some FieldType.boolean) am_g60 78 [some (.ref 31), some (.ref 3), some (.ref 5), some (.int (nI e)), some (.int (nI (Y.1)))] [] (am_hp n μ1 ν1) (ylQ X n μ ν (.inr (i + 1, yA Y 0 0 0))) := by
  refine am_q_iload_n rfl rfl ?_
  refine am_q_zneN rfl (by omega) (fun c_79 => absurd c_79 (by omega)) (fun c_79 => ?_)
  refine am_q_iconst (v := nI 1) rfl rfl ?_
  refine am_q_ireturn rfl rfl rfl ?_
  subst he
  exact ⟨_, _, rfl, hT, yA_x hY hA.1 hA.2.1 (hA.2.2.1.trans (if_pos rfl).symm) (hA.2.2.2.1.trans (if_neg (by decide)).symm) (fun a b z1 z2 z3 => hA.2.2.2.2 a b (by omega) (by omega) (by omega)), ylA_fr hA, hl1⟩

theorem s_ylT1 (d e c : Nat) (n i : Nat) {X : tTp} {V : sVal} {nm : Nat → Nat} {Y : sYear} {μ μ1 : am_M2} {ν ν1 : am_N2} (hX : tpOk X) (hT : xTk μ1 ν1 X (i + 1)) (hL : xLg ν1) (hV : xVal μ V) (hn : ∀ s, s < vN V → ν 6 s = lN (nm s) ∧ nm s < 2 ^ 63) (hY : xYd μ Y) (h5 : Y.1 < 40) (hA : ylA μ μ1 Y e) (hl1 : frKL ν ν1) (he : e ≤ 3) (he0 : e ≠ 0) (hr : pTold X nm (vN V) (i + 1) = .inl c) : am_w (d + 6) (Option.some FieldType.boolean) am_g60 78 [some (.ref 31), some (.ref 3), some (.ref 5), some (.int (nI e)), some (.int (nI (Y.1)))] [] (am_hp n μ1 ν1) (ylQ X n μ ν (.inl c)) := by
  have hN6 := hV.1.2.1
  have h9 : μ1 5 9 = nI (vN V) := (hA.2.2.2.2 5 9 (by omega) (by omega) (by omega)).trans hV.1.1
  have h58 : μ1 5 8 = nI (vP V) := (hA.2.2.2.2 5 8 (by omega) (by omega) (by omega)).trans hV.1.2.2.1
  have hn1 : ∀ s, s < vN V → ν1 6 s = lN (nm s) ∧ nm s < 2 ^ 63 := fun s hs => ⟨(hl1 6 s (by omega)).trans (hn s hs).1, (hn s hs).2⟩
  refine am_q_iload_n rfl rfl ?_
  refine am_q_zneN rfl (by omega) (fun c_79 => ?_) (fun c_79 => absurd c_79 (by omega))
  refine am_q_aload_n rfl rfl ?_
  refine am_q_gr rfl rfl rfl ?_
  refine am_q_iload rfl rfl ?_
  refine am_q_aload_n rfl rfl ?_
  refine am_q_aload_n rfl rfl ?_
  obtain ⟨μ2, hc2, hf2, h7⟩ := s_passS0_5 (d + 1) n (i + 1) (vN V) nm ν1 hX hT hL h9 hN6 hn1 c hr
  refine am_q_call rfl rfl (hc2) rfl ?_
  refine am_q_iast rfl rfl (by first | exact am_ix_nI (by omega) (by omega) | rfl) rfl ?_
  refine am_q_aload_n rfl rfl ?_
  refine am_q_gr rfl rfl rfl ?_
  refine am_q_iload rfl rfl ?_
  refine am_q_iald rfl rfl (by first | exact am_ix_nI (by omega) (by omega) | rfl) am_up_eq ?_
  refine am_q_iconst (v := -1) rfl rfl ?_
  refine am_q_icmp_eq rfl (fun c_104 => ?_) (fun c_104 => absurd rfl c_104)
  refine am_q_aload_n rfl rfl ?_
  refine am_q_gr rfl rfl rfl ?_
  refine am_q_iload rfl rfl ?_
  refine am_q_iald rfl rfl (by first | exact am_ix_nI (by omega) (by omega) | rfl) am_up_eq ?_
  refine am_q_iconst (v := -1) rfl rfl ?_
  refine am_q_icmp_eq rfl (fun c_120 => ?_) (fun c_120 => absurd rfl c_120)
  refine am_q_iconst (v := nI 0) rfl rfl ?_
  refine am_q_ireturn rfl rfl rfl ?_
  exact ⟨_, _, rfl, (am_up_ne (by omega)).trans h7, fun a b z1 z2 => (am_up_ne (by omega)).trans ((hf2 a b z1).trans (ylA_fr hA a b z1 z2)), hl1⟩

theorem s_ylT2 (d e s : Nat) (n i : Nat) {X : tTp} {V : sVal} {nm : Nat → Nat} {Y : sYear} {μ μ1 : am_M2} {ν ν1 : am_N2} (hX : tpOk X) (hT : xTk μ1 ν1 X (i + 1)) (hL : xLg ν1) (hV : xVal μ V) (hn : ∀ s, s < vN V → ν 6 s = lN (nm s) ∧ nm s < 2 ^ 63) (hY : xYd μ Y) (h5 : Y.1 < 40) (hA : ylA μ μ1 Y e) (hl1 : frKL ν ν1) (he : e ≤ 3) (he0 : e ≠ 0) (he2 : e ≠ 2) (hr : pTold X nm (vN V) (i + 1) = .inr s) : am_w (d + 6) (Option.some FieldType.boolean) am_g60 78 [some (.ref 31), some (.ref 3), some (.ref 5), some (.int (nI e)), some (.int (nI (Y.1)))] [] (am_hp n μ1 ν1) (ylQ X n μ ν (.inr (i + 2, yA Y e s 0))) := by
  have hN6 := hV.1.2.1
  have h9 : μ1 5 9 = nI (vN V) := (hA.2.2.2.2 5 9 (by omega) (by omega) (by omega)).trans hV.1.1
  have h58 : μ1 5 8 = nI (vP V) := (hA.2.2.2.2 5 8 (by omega) (by omega) (by omega)).trans hV.1.2.2.1
  have hn1 : ∀ s, s < vN V → ν1 6 s = lN (nm s) ∧ nm s < 2 ^ 63 := fun s hs => ⟨(hl1 6 s (by omega)).trans (hn s hs).1, (hn s hs).2⟩
  refine am_q_iload_n rfl rfl ?_
  refine am_q_zneN rfl (by omega) (fun c_79 => ?_) (fun c_79 => absurd c_79 (by omega))
  refine am_q_aload_n rfl rfl ?_
  refine am_q_gr rfl rfl rfl ?_
  refine am_q_iload rfl rfl ?_
  refine am_q_aload_n rfl rfl ?_
  refine am_q_aload_n rfl rfl ?_
  obtain ⟨μ2, ν2, hc2, hT2, hf2, hl2, hsN⟩ := s_passS1_5 (d + 1) n (i + 1) (vN V) nm ν1 hX hT hL h9 hN6 hn1 s hr
  refine am_q_call rfl rfl (hc2) rfl ?_
  refine am_q_iast rfl rfl (by first | exact am_ix_nI (by omega) (by omega) | rfl) rfl ?_
  refine am_q_aload_n rfl rfl ?_
  refine am_q_gr rfl rfl rfl ?_
  refine am_q_iload rfl rfl ?_
  refine am_q_iald rfl rfl (by first | exact am_ix_nI (by omega) (by omega) | rfl) am_up_eq ?_
  refine am_q_iconst (v := -1) rfl rfl ?_
  refine am_q_icmp_eq rfl (fun c_104 => absurd (show nI s < 0 by rw [show nI s = -1 from c_104]; decide) (nI_pos (by omega))) (fun c_104 => ?_)
  refine am_q_iload_n rfl rfl ?_
  refine am_q_iconst (v := nI 2) rfl rfl ?_
  refine am_q_ieqN rfl (by omega) (by omega) (fun c_109 => absurd c_109 (by omega)) (fun c_109 => ?_)
  refine am_q_aload_n rfl rfl ?_
  refine am_q_gr rfl rfl rfl ?_
  refine am_q_iload rfl rfl ?_
  refine am_q_iald rfl rfl (by first | exact am_ix_nI (by omega) (by omega) | rfl) am_up_eq ?_
  refine am_q_iconst (v := -1) rfl rfl ?_
  refine am_q_icmp_eq rfl (fun c_120 => absurd (show nI s < 0 by rw [show nI s = -1 from c_120]; decide) (nI_pos (by omega))) (fun c_120 => ?_)
  refine am_q_iconst (v := nI 1) rfl rfl ?_
  refine am_q_goto rfl ?_
  refine am_q_ireturn rfl rfl rfl ?_
  have g : ∀ a b, ¬ (a = 3 ∧ 2 ≤ b) → ¬ (a = 33 ∧ b = Y.1) → am_up μ2 33 Y.1 (nI s) a b = μ1 a b := fun a b z1 z2 => (am_up_ne (by omega)).trans (hf2 a b (by omega))
  exact ⟨_, _, rfl, xTk_up (by decide) hT2, yA_x hY ((g 31 3 (by omega) (by omega)).trans hA.1) ((g 32 _ (by omega) (by omega)).trans hA.2.1) (am_up_eq.trans (if_neg he0).symm) (((g 34 _ (by omega) (by omega)).trans hA.2.2.2.1).trans (if_neg he2).symm) (fun a b z1 z2 z3 => (g a b (by omega) (by omega)).trans (hA.2.2.2.2 a b (by omega) (by omega) (by omega))), fun a b z1 z2 => (g a b z1 (by omega)).trans (ylA_fr hA a b z1 z2), frKL_tr hl1 hl2⟩

theorem s_ylT3 (d e s c : Nat) (n i : Nat) {X : tTp} {V : sVal} {nm : Nat → Nat} {Y : sYear} {μ μ1 : am_M2} {ν ν1 : am_N2} (hX : tpOk X) (hT : xTk μ1 ν1 X (i + 1)) (hL : xLg ν1) (hV : xVal μ V) (hn : ∀ s, s < vN V → ν 6 s = lN (nm s) ∧ nm s < 2 ^ 63) (hY : xYd μ Y) (h5 : Y.1 < 40) (hA : ylA μ μ1 Y e) (hl1 : frKL ν ν1) (he : e = 2) (hr : pTold X nm (vN V) (i + 1) = .inr s) (hp : pNumI X (i + 2) 0 (nI (vP V) - nI 1) = .inl c) : am_w (d + 6) (Option.some FieldType.boolean) am_g60 78 [some (.ref 31), some (.ref 3), some (.ref 5), some (.int (nI e)), some (.int (nI (Y.1)))] [] (am_hp n μ1 ν1) (ylQ X n μ ν (.inl c)) := by
  have hN6 := hV.1.2.1
  have h9 : μ1 5 9 = nI (vN V) := (hA.2.2.2.2 5 9 (by omega) (by omega) (by omega)).trans hV.1.1
  have h58 : μ1 5 8 = nI (vP V) := (hA.2.2.2.2 5 8 (by omega) (by omega) (by omega)).trans hV.1.2.2.1
  have hn1 : ∀ s, s < vN V → ν1 6 s = lN (nm s) ∧ nm s < 2 ^ 63 := fun s hs => ⟨(hl1 6 s (by omega)).trans (hn s hs).1, (hn s hs).2⟩
  refine am_q_iload_n rfl rfl ?_
  refine am_q_zneN rfl (by omega) (fun c_79 => ?_) (fun c_79 => absurd c_79 (by omega))
  refine am_q_aload_n rfl rfl ?_
  refine am_q_gr rfl rfl rfl ?_
  refine am_q_iload rfl rfl ?_
  refine am_q_aload_n rfl rfl ?_
  refine am_q_aload_n rfl rfl ?_
  obtain ⟨μ2, ν2, hc2, hT2, hf2, hl2, hsN⟩ := s_passS1_5 (d + 1) n (i + 1) (vN V) nm ν1 hX hT hL h9 hN6 hn1 s hr
  refine am_q_call rfl rfl (hc2) rfl ?_
  refine am_q_iast rfl rfl (by first | exact am_ix_nI (by omega) (by omega) | rfl) rfl ?_
  refine am_q_aload_n rfl rfl ?_
  refine am_q_gr rfl rfl rfl ?_
  refine am_q_iload rfl rfl ?_
  refine am_q_iald rfl rfl (by first | exact am_ix_nI (by omega) (by omega) | rfl) am_up_eq ?_
  refine am_q_iconst (v := -1) rfl rfl ?_
  refine am_q_icmp_eq rfl (fun c_104 => absurd (show nI s < 0 by rw [show nI s = -1 from c_104]; decide) (nI_pos (by omega))) (fun c_104 => ?_)
  refine am_q_iload_n rfl rfl ?_
  refine am_q_iconst (v := nI 2) rfl rfl ?_
  refine am_q_ieqN rfl (by omega) (by omega) (fun c_109 => ?_) (fun c_109 => absurd c_109 (by omega))
  refine am_q_aload_n rfl rfl ?_
  refine am_q_gr rfl rfl rfl ?_
  refine am_q_iload rfl rfl ?_
  refine am_q_aload_n rfl rfl ?_
  refine am_q_iconst (v := nI 0) rfl rfl ?_
  refine am_q_aload_n rfl rfl ?_
  refine am_q_gi rfl rfl rfl (show am_up μ2 33 Y.1 (nI s) 5 8 = nI (vP V) from (am_up_ne (by omega)).trans ((hf2 5 8 (by omega)).trans h58)) ?_
  refine am_q_iconst (v := nI 1) rfl rfl ?_
  refine am_q_isub rfl rfl ?_
  obtain ⟨μ3, hc3, hf3, h7⟩ := s_passN0 (d + 1) (nI (vP V) - nI 1) n (i + 2) (μ := am_up μ2 33 Y.1 (nI s)) ν2 hX (xTk_up (by decide) hT2) (xLg_S hl2 hL) 0 (by decide) c hp
  refine am_q_call rfl rfl (hc3) rfl ?_
  refine am_q_iast rfl rfl (by first | exact am_ix_nI (by omega) (by omega) | rfl) rfl ?_
  refine am_q_aload_n rfl rfl ?_
  refine am_q_gr rfl rfl rfl ?_
  refine am_q_iload rfl rfl ?_
  refine am_q_iald rfl rfl (by first | exact am_ix_nI (by omega) (by omega) | rfl) am_up_eq ?_
  refine am_q_iconst (v := -1) rfl rfl ?_
  refine am_q_icmp_eq rfl (fun c_155 => ?_) (fun c_155 => absurd rfl c_155)
  refine am_q_iconst (v := nI 0) rfl rfl ?_
  refine am_q_ireturn rfl rfl rfl ?_
  exact ⟨_, _, rfl, (am_up_ne (by omega)).trans h7, fun a b z1 z2 => (am_up_ne (by omega)).trans ((hf3 a b z1).trans ((am_up_ne (by omega)).trans ((hf2 a b (by omega)).trans (ylA_fr hA a b z1 z2)))), frKL_tr hl1 hl2⟩

theorem s_ylT4 (d e s p : Nat) (n i : Nat) {X : tTp} {V : sVal} {nm : Nat → Nat} {Y : sYear} {μ μ1 : am_M2} {ν ν1 : am_N2} (hX : tpOk X) (hT : xTk μ1 ν1 X (i + 1)) (hL : xLg ν1) (hV : xVal μ V) (hn : ∀ s, s < vN V → ν 6 s = lN (nm s) ∧ nm s < 2 ^ 63) (hY : xYd μ Y) (h5 : Y.1 < 40) (hA : ylA μ μ1 Y e) (hl1 : frKL ν ν1) (he : e = 2) (hr : pTold X nm (vN V) (i + 1) = .inr s) (hp : pNumI X (i + 2) 0 (nI (vP V) - nI 1) = .inr p) : am_w (d + 6) (Option.some FieldType.boolean) am_g60 78 [some (.ref 31), some (.ref 3), some (.ref 5), some (.int (nI e)), some (.int (nI (Y.1)))] [] (am_hp n μ1 ν1) (ylQ X n μ ν (.inr (i + 3, yA Y e s p))) := by
  have hN6 := hV.1.2.1
  have h9 : μ1 5 9 = nI (vN V) := (hA.2.2.2.2 5 9 (by omega) (by omega) (by omega)).trans hV.1.1
  have h58 : μ1 5 8 = nI (vP V) := (hA.2.2.2.2 5 8 (by omega) (by omega) (by omega)).trans hV.1.2.2.1
  have hn1 : ∀ s, s < vN V → ν1 6 s = lN (nm s) ∧ nm s < 2 ^ 63 := fun s hs => ⟨(hl1 6 s (by omega)).trans (hn s hs).1, (hn s hs).2⟩
  refine am_q_iload_n rfl rfl ?_
  refine am_q_zneN rfl (by omega) (fun c_79 => ?_) (fun c_79 => absurd c_79 (by omega))
  refine am_q_aload_n rfl rfl ?_
  refine am_q_gr rfl rfl rfl ?_
  refine am_q_iload rfl rfl ?_
  refine am_q_aload_n rfl rfl ?_
  refine am_q_aload_n rfl rfl ?_
  obtain ⟨μ2, ν2, hc2, hT2, hf2, hl2, hsN⟩ := s_passS1_5 (d + 1) n (i + 1) (vN V) nm ν1 hX hT hL h9 hN6 hn1 s hr
  refine am_q_call rfl rfl (hc2) rfl ?_
  refine am_q_iast rfl rfl (by first | exact am_ix_nI (by omega) (by omega) | rfl) rfl ?_
  refine am_q_aload_n rfl rfl ?_
  refine am_q_gr rfl rfl rfl ?_
  refine am_q_iload rfl rfl ?_
  refine am_q_iald rfl rfl (by first | exact am_ix_nI (by omega) (by omega) | rfl) am_up_eq ?_
  refine am_q_iconst (v := -1) rfl rfl ?_
  refine am_q_icmp_eq rfl (fun c_104 => absurd (show nI s < 0 by rw [show nI s = -1 from c_104]; decide) (nI_pos (by omega))) (fun c_104 => ?_)
  refine am_q_iload_n rfl rfl ?_
  refine am_q_iconst (v := nI 2) rfl rfl ?_
  refine am_q_ieqN rfl (by omega) (by omega) (fun c_109 => ?_) (fun c_109 => absurd c_109 (by omega))
  refine am_q_aload_n rfl rfl ?_
  refine am_q_gr rfl rfl rfl ?_
  refine am_q_iload rfl rfl ?_
  refine am_q_aload_n rfl rfl ?_
  refine am_q_iconst (v := nI 0) rfl rfl ?_
  refine am_q_aload_n rfl rfl ?_
  refine am_q_gi rfl rfl rfl (show am_up μ2 33 Y.1 (nI s) 5 8 = nI (vP V) from (am_up_ne (by omega)).trans ((hf2 5 8 (by omega)).trans h58)) ?_
  refine am_q_iconst (v := nI 1) rfl rfl ?_
  refine am_q_isub rfl rfl ?_
  obtain ⟨μ3, ν3, hc3, hT3, hf3, hl3, -, hp4⟩ := s_passN1 (d + 1) (nI (vP V) - nI 1) n (i + 2) (μ := am_up μ2 33 Y.1 (nI s)) ν2 hX (xTk_up (by decide) hT2) (xLg_S hl2 hL) 0 (by decide) p hp
  refine am_q_call rfl rfl (hc3) rfl ?_
  refine am_q_iast rfl rfl (by first | exact am_ix_nI (by omega) (by omega) | rfl) rfl ?_
  refine am_q_aload_n rfl rfl ?_
  refine am_q_gr rfl rfl rfl ?_
  refine am_q_iload rfl rfl ?_
  refine am_q_iald rfl rfl (by first | exact am_ix_nI (by omega) (by omega) | rfl) am_up_eq ?_
  refine am_q_iconst (v := -1) rfl rfl ?_
  refine am_q_icmp_eq rfl (fun c_155 => absurd (show nI p < 0 by rw [show nI p = -1 from c_155]; decide) (nI_pos (by omega))) (fun c_155 => ?_)
  refine am_q_iconst (v := nI 1) rfl rfl ?_
  refine am_q_goto rfl ?_
  refine am_q_ireturn rfl rfl rfl ?_
  have g : ∀ a b, ¬ (a = 3 ∧ 2 ≤ b) → ¬ (a = 33 ∧ b = Y.1) → ¬ (a = 34 ∧ b = Y.1) → am_up μ3 34 Y.1 (nI p) a b = μ1 a b := fun a b z1 z2 z3 => (am_up_ne (by omega)).trans ((hf3 a b (by omega)).trans ((am_up_ne (by omega)).trans (hf2 a b (by omega))))
  have h33 : am_up μ3 34 Y.1 (nI p) 33 Y.1 = nI s := (am_up_ne (by omega)).trans ((hf3 33 _ (by omega)).trans am_up_eq)
  exact ⟨_, _, rfl, xTk_up (by decide) hT3, yA_x hY ((g 31 3 (by omega) (by omega) (by omega)).trans hA.1) ((g 32 _ (by omega) (by omega) (by omega)).trans hA.2.1) (h33.trans (if_neg (by omega)).symm) (am_up_eq.trans (if_pos he).symm) (fun a b z1 z2 z3 => (g a b (by omega) (by omega) (by omega)).trans (hA.2.2.2.2 a b (by omega) (by omega) (by omega))), fun a b z1 z2 => (g a b z1 (by omega) (by omega)).trans (ylA_fr hA a b z1 z2), frKL_tr hl1 (frKL_tr hl2 hl3)⟩

theorem s_ylW (d : Nat) (n i : Nat) {X : tTp} {V : sVal} {nm : Nat → Nat} {Y : sYear} {μ : am_M2} (ν : am_N2) (hX : tpOk X) (hT : xTk μ ν X i) (hL : xLg ν) (hV : xVal μ V) (hn : ∀ s, s < vN V → ν 6 s = lN (nm s) ∧ nm s < 2 ^ 63) (hY : xYd μ Y) (hY4 : Y.1 ≤ 40) : am_w (d + 6) (Option.some FieldType.boolean) am_g60 0 [some (.ref 31), some (.ref 3), some (.ref 5), none, none] [] (am_hp n μ ν) (ylQ X n μ ν (pYl X V nm i Y)) := by
  unfold pYl
  cases h : isDd X i with
  | none => exact s_ylX d n i ν hX hT hL hV hn hY hY4 h
  | some e =>
    show am_w _ _ _ _ _ _ _ (ylQ X n μ ν (if 40 ≤ Y.1 then .inl (wr X i 5) else if e = 0 then .inr (i + 1, yA Y 0 0 0) else _))
    by_cases h5 : 40 ≤ Y.1
    · rw [if_pos h5]; exact s_yl5 d e n i ν hX hT hL hV hn hY hY4 h h5
    · rw [if_neg h5]
      have he3 := (isDd_s h).2
      refine s_ylPre d e n i ν hX hT hL hV hn hY hY4 h (by omega) _ (fun μ1 ν1 e1 e2 e3 e4 => ?_)
      by_cases h0 : e = 0
      · rw [if_pos h0]; exact s_ylT0 d e n i hX e1 e2 hV hn hY (by omega) e3 e4 h0
      · rw [if_neg h0]
        cases hr : pTold X nm (vN V) (i + 1) with
        | inl c => exact s_ylT1 d e c n i hX e1 e2 hV hn hY (by omega) e3 e4 he3 h0 hr
        | inr s =>
          show am_w _ _ _ _ _ _ _ (ylQ X n μ ν (if e = 2 then _ else _))
          by_cases h2 : e = 2
          · rw [if_pos h2]
            cases hp : pNumI X (i + 2) 0 (nI (vP V) - nI 1) with
            | inl c => exact s_ylT3 d e s c n i hX e1 e2 hV hn hY (by omega) e3 e4 h2 hr hp
            | inr p => exact s_ylT4 d e s p n i hX e1 e2 hV hn hY (by omega) e3 e4 h2 hr hp
          · rw [if_neg h2]; exact s_ylT2 d e s n i hX e1 e2 hV hn hY (by omega) e3 e4 he3 h0 h2 hr
theorem s_yline (d : Nat) (n i : Nat) {X : tTp} {V : sVal} {nm : Nat → Nat} {Y : sYear} {μ : am_M2} (ν : am_N2) (hX : tpOk X) (hT : xTk μ ν X i) (hL : xLg ν) (hV : xVal μ V) (hn : ∀ s, s < vN V → ν 6 s = lN (nm s) ∧ nm s < 2 ^ 63) (hY : xYd μ Y) (hY4 : Y.1 ≤ 40) : ∃ y, am_run (d + 7) 60 [.ref 31, .ref 3, .ref 5] (am_hp n μ ν) = some y ∧ ylQ X n μ ν (pYl X V nm i Y) y := am_run_wE (k := 60) (d := d + 6) rfl rfl (Nat.le_of_ble_eq_true rfl) [some (.ref 31), some (.ref 3), some (.ref 5), none, none] rfl (s_ylW d n i ν hX hT hL hV hn hY hY4)