theorem pNI_b {X : tTp} (hX : tpOk X) {i lo c : Nat} {hi : Int32} (h : pNumI X i lo hi = .inl c) : 0 < c ∧ c < 2 ^ 20 := by
  unfold pNumI at h
  split at h
  · injection h with h; rw [← h]; exact wr_b hX i (by decide) (by decide)
  · split at h
    · injection h with h; rw [← h]; exact wr_b hX i (by decide) (by decide)
    · cases h
def mYd (μ : am_M2) (Y : sYear) : Prop := ∀ i, i < Y.1 → μ 142 (125 + 3 * i) = nI (Y.2.1 i) ∧ μ 142 (125 + 3 * i + 1) = nI (Y.2.2.1 i) ∧ μ 142 (125 + 3 * i + 2) = nI (Y.2.2.2 i)
def frMy (μ μ' : am_M2) : Prop := ∀ a k, ¬ (a = 133 ∧ (k = 7 ∨ k = 8)) → ¬ (a = 142 ∧ 125 ≤ k) → μ' a k = μ a k
theorem frMy_rf (μ : am_M2) : frMy μ μ := fun _ _ _ _ => rfl
theorem frMy_tr {μ μ' μ'' : am_M2} (h : frMy μ μ') (h' : frMy μ' μ'') : frMy μ μ'' := fun a k x y => (h' a k x y).trans (h a k x y)
theorem frMy_3 {μ : am_M2} {k : Nat} {v : Int32} (h : k = 7 ∨ k = 8) : frMy μ (am_up μ 133 k v) := fun a b x y => am_up_ne (by omega)
theorem frMy_y {μ : am_M2} {k : Nat} {v : Int32} (h : 125 ≤ k) : frMy μ (am_up μ 142 k v) := fun a b x y => am_up_ne (by omega)
theorem mYd_A {μ μ' : am_M2} {Y : sYear} {e s p : Nat} (hY : mYd μ Y) (h1 : μ' 142 (125 + 3 * Y.1) = nI e) (h2 : μ' 142 (125 + 3 * Y.1 + 1) = nI s) (h3 : μ' 142 (125 + 3 * Y.1 + 2) = nI p) (hf : ∀ k, k < 125 + 3 * Y.1 → μ' 142 k = μ 142 k) : mYd μ' (yA Y e s p) := by
  intro k hk
  have hk' : k < Y.1 + 1 := hk
  have hF : ∀ (f : Nat → Nat) (a : Nat) (v : Nat), fup f a v a = v := fun f a v => if_pos rfl
  have hFn : ∀ (f : Nat → Nat) (a b : Nat) (v : Nat), b ≠ a → fup f a v b = f b := fun f a b v hb => if_neg hb
  by_cases z : k = Y.1
  · subst z
    refine ⟨h1.trans ?_, h2.trans ?_, h3.trans ?_⟩
    · show _ = nI (fup Y.2.1 Y.1 e Y.1); rw [hF]
    · show _ = nI (fup Y.2.2.1 Y.1 s Y.1); rw [hF]
    · show _ = nI (fup Y.2.2.2 Y.1 p Y.1); rw [hF]
  · obtain ⟨c1, c2, c3⟩ := hY k (by omega)
    refine ⟨(hf _ (by omega)).trans (c1.trans ?_), (hf _ (by omega)).trans (c2.trans ?_), (hf _ (by omega)).trans (c3.trans ?_)⟩
    · show _ = nI (fup Y.2.1 Y.1 e k); rw [hFn _ _ _ _ z]
    · show _ = nI (fup Y.2.2.1 Y.1 s k); rw [hFn _ _ _ _ z]
    · show _ = nI (fup Y.2.2.2 Y.1 p k); rw [hFn _ _ _ _ z]
def mlK (X : tTp) (n d : Nat) (μ : am_M2) (ν : am_N2) (Q : am_R → Prop) (r : Nat ⊕ (Nat × sYear)) : Prop := match r with
  | .inl c => ∀ (C : Nat) (l2 l3 : Option Value) (μ' : am_M2), μ' 133 8 = nI c → 0 < c → c < 2 ^ 20 → frMy μ μ' → am_w (d + 4) (Option.some FieldType.int) am_g214 145 [some (.ref 133), some (.int (nI C)), l2, l3] [] (am_hp n μ' ν) Q
  | .inr q => ∀ (l2 l3 : Option Value) (μ' : am_M2), mP μ' ν X q.1 → mYd μ' q.2 → frMy μ μ' → am_w (d + 4) (Option.some FieldType.int) am_g214 145 [some (.ref 133), some (.int (nI q.2.1)), l2, l3] [] (am_hp n μ' ν) Q
theorem m_yl1 (d n i : Nat) {X : tTp} {V : sVal} {nm : Nat → Nat} {Y : sYear} {μ : am_M2} {ν : am_N2} (l2 l3 : Option Value) (hX : tpOk X) (hO : vOk V) (hY : Y.1 ≤ 40) (hV : mVal μ V) (hn : mNmR ν 0 nm (vN V)) (hP : mP μ ν X i) (hD : mYd μ Y) (hk : ¬ kd X i = 0) (Q : am_R → Prop) (hd : isDd X i = none) (K : ∀ (C : Nat) (l2 l3 : Option Value) (μ' : am_M2), μ' 133 8 = nI (wr X i 1) → 0 < (wr X i 1) → (wr X i 1) < 2 ^ 20 → frMy μ μ' → am_w (d + 4) (Option.some FieldType.int) am_g214 145 [some (.ref 133), some (.int (nI C)), l2, l3] [] (am_hp n μ' ν) Q) : am_w (d + 4) (Option.some FieldType.int) am_g214 30 [some (.ref 133), some (.int (nI (Y.1))), l2, l3] [] (am_hp n μ ν) (Q) := by
  have h6 := hO.1.1
  have hP8 := hO.1.2.1
  have hi1 := tN_s hP.2.2.2.2 hk
  have hw := m_wordHere0 (d + 2) 7 4 (by decide) n i ν hX hP
  rw [dd_wh, hd] at hw
  dsimp only [oI] at hw
  obtain ⟨w0, w1⟩ := wr_b hX i (k := 1) (by decide) (by decide)
  refine am_q_aload_n rfl rfl ?_
  refine am_q_bipush (v := nI 7) rfl rfl ?_
  refine am_q_iconst (v := nI 4) rfl rfl ?_
  refine am_q_call rfl rfl (hw) rfl ?_
  refine am_q_istore_n [some _, some _, some _, _] rfl (Nat.le_of_ble_eq_true rfl) rfl ?_
  refine am_q_iload_n rfl rfl ?_
  refine am_q_if_ge rfl (fun c_39 => absurd c_39 (by decide)) (fun c_39 => ?_)
  refine am_q_aload_n rfl rfl ?_
  refine am_q_iconst (v := nI 1) rfl rfl ?_
  refine am_q_call rfl rfl (m_wrong0 (d + 3) 1 n i ν hX hP) rfl ?_
  refine am_q_goto rfl ?_
  exact K _ _ _ _ am_up_eq w0 w1 (frMy_3 (by omega))

theorem m_yl2 (d n i : Nat) {X : tTp} {V : sVal} {nm : Nat → Nat} {Y : sYear} {μ : am_M2} {ν : am_N2} (l2 l3 : Option Value) (hX : tpOk X) (hO : vOk V) (hY : Y.1 ≤ 40) (hV : mVal μ V) (hn : mNmR ν 0 nm (vN V)) (hP : mP μ ν X i) (hD : mYd μ Y) (hk : ¬ kd X i = 0) (Q : am_R → Prop) {e : Nat} (he : e ≤ 3) (hd : isDd X i = some e) (h40 : 40 ≤ Y.1) (K : ∀ (C : Nat) (l2 l3 : Option Value) (μ' : am_M2), μ' 133 8 = nI (wr X i 5) → 0 < (wr X i 5) → (wr X i 5) < 2 ^ 20 → frMy μ μ' → am_w (d + 4) (Option.some FieldType.int) am_g214 145 [some (.ref 133), some (.int (nI C)), l2, l3] [] (am_hp n μ' ν) Q) : am_w (d + 4) (Option.some FieldType.int) am_g214 30 [some (.ref 133), some (.int (nI (Y.1))), l2, l3] [] (am_hp n μ ν) (Q) := by
  have h6 := hO.1.1
  have hP8 := hO.1.2.1
  have hi1 := tN_s hP.2.2.2.2 hk
  have hw := m_wordHere0 (d + 2) 7 4 (by decide) n i ν hX hP
  rw [dd_wh, hd] at hw
  dsimp only [oI] at hw
  obtain ⟨w0, w1⟩ := wr_b hX i (k := 5) (by decide) (by decide)
  refine am_q_aload_n rfl rfl ?_
  refine am_q_bipush (v := nI 7) rfl rfl ?_
  refine am_q_iconst (v := nI 4) rfl rfl ?_
  refine am_q_call rfl rfl (hw) rfl ?_
  refine am_q_istore_n [some _, some _, some _, _] rfl (Nat.le_of_ble_eq_true rfl) rfl ?_
  refine am_q_iload_n rfl rfl ?_
  refine am_q_zgeN rfl (by omega) (fun c_39 => ?_) (fun c_39 => absurd c_39 (by omega))
  refine am_q_iload_n rfl rfl ?_
  refine am_q_bipush (v := nI 40) rfl rfl ?_
  refine am_q_ineN rfl (by omega) (by omega) (fun c_53 => absurd c_53 (by omega)) (fun c_53 => ?_)
  refine am_q_aload_n rfl rfl ?_
  refine am_q_iconst (v := nI 5) rfl rfl ?_
  refine am_q_call rfl rfl (m_wrong0 (d + 3) 5 n i ν hX hP) rfl ?_
  refine am_q_goto rfl ?_
  exact K _ _ _ _ am_up_eq w0 w1 (frMy_3 (by omega))

theorem m_yl3 (d n i : Nat) {X : tTp} {V : sVal} {nm : Nat → Nat} {Y : sYear} {μ : am_M2} {ν : am_N2} (l2 l3 : Option Value) (hX : tpOk X) (hO : vOk V) (hY : Y.1 ≤ 40) (hV : mVal μ V) (hn : mNmR ν 0 nm (vN V)) (hP : mP μ ν X i) (hD : mYd μ Y) (hk : ¬ kd X i = 0) (Q : am_R → Prop) {e : Nat} (he : e ≤ 3) (hd : isDd X i = some e) (h40 : ¬ 40 ≤ Y.1) (h0 : e = 0) (K : ∀ (l2 l3 : Option Value) (μ' : am_M2), mP μ' ν X (i + 1) → mYd μ' (yA Y 0 0 0) → frMy μ μ' → am_w (d + 4) (Option.some FieldType.int) am_g214 145 [some (.ref 133), some (.int (nI (Y.1 + 1))), l2, l3] [] (am_hp n μ' ν) Q) : am_w (d + 4) (Option.some FieldType.int) am_g214 30 [some (.ref 133), some (.int (nI (Y.1))), l2, l3] [] (am_hp n μ ν) (Q) := by
  have h6 := hO.1.1
  have hP8 := hO.1.2.1
  have hi1 := tN_s hP.2.2.2.2 hk
  have hw := m_wordHere0 (d + 2) 7 4 (by decide) n i ν hX hP
  rw [dd_wh, hd] at hw
  dsimp only [oI] at hw
  have hP1 : mP (am_up (am_up μ 133 7 (nI (i + 1))) 142 (125 + 3 * Y.1) (nI e)) ν X (i + 1) := mP_c (mP_at hP hi1) (fun k => ⟨am_up_ne (by omega), am_up_ne (by omega)⟩) (am_up_ne (by omega)) (am_up_ne (by omega)) (fun k => ⟨rfl, rfl⟩)
  have hV1 : mVal (am_up (am_up μ 133 7 (nI (i + 1))) 142 (125 + 3 * Y.1) (nI e)) V := mVal_c (fun a ha => by funext k; rw [am_up_ne (by omega), am_up_ne (by omega)]) hV
  have hA := hP.2.2.1
  refine am_q_aload_n rfl rfl ?_
  refine am_q_bipush (v := nI 7) rfl rfl ?_
  refine am_q_iconst (v := nI 4) rfl rfl ?_
  refine am_q_call rfl rfl (hw) rfl ?_
  refine am_q_istore_n [some _, some _, some _, _] rfl (Nat.le_of_ble_eq_true rfl) rfl ?_
  refine am_q_iload_n rfl rfl ?_
  refine am_q_zgeN rfl (by omega) (fun c_39 => ?_) (fun c_39 => absurd c_39 (by omega))
  refine am_q_iload_n rfl rfl ?_
  refine am_q_bipush (v := nI 40) rfl rfl ?_
  refine am_q_ineN rfl (by omega) (by omega) (fun c_53 => ?_) (fun c_53 => absurd c_53 (by omega))
  refine am_q_aload_n rfl rfl ?_
  refine am_q_dupr rfl ?_
  refine am_q_gi rfl rfl rfl hA ?_
  refine am_q_iconst (v := nI 1) rfl rfl ?_
  refine am_q_iadd rfl (nI_add _ _) ?_
  refine am_q_pi rfl rfl rfl (Or.inl rfl) ?_
  refine am_q_bipush (v := nI 125) rfl rfl ?_
  refine am_q_iconst (v := nI 3) rfl rfl ?_
  refine am_q_iload_n rfl rfl ?_
  refine am_q_imul rfl (pk_mul _ _) ?_
  refine am_q_iadd rfl (nI_add _ _) ?_
  refine am_q_istore_n [some _, some _, some _, some _] rfl (Nat.le_of_ble_eq_true rfl) rfl ?_
  refine am_q_aload_n rfl rfl ?_
  refine am_q_gr rfl rfl rfl ?_
  refine am_q_iload_n rfl rfl ?_
  refine am_q_iload_n rfl rfl ?_
  refine am_q_iast rfl rfl (am_ix_nI (show 125 + 3 * Y.1 < 250 by omega) (by decide)) rfl ?_
  refine am_q_aload_n rfl rfl ?_
  refine am_q_gr rfl rfl rfl ?_
  refine am_q_iload_n rfl rfl ?_
  refine am_q_iconst (v := nI 1) rfl rfl ?_
  refine am_q_iadd rfl (nI_add _ _) ?_
  refine am_q_iload_n rfl rfl ?_
  refine am_q_zleN rfl (by omega) (fun c_96 => ?_) (fun c_96 => absurd c_96 (by omega))
  refine am_q_iconst (v := nI 0) rfl rfl ?_
  refine am_q_iast rfl rfl (am_ix_nI (show 125 + 3 * Y.1 + 1 < 250 by omega) (by decide)) rfl ?_
  refine am_q_aload_n rfl rfl ?_
  refine am_q_gr rfl rfl rfl ?_
  refine am_q_iload_n rfl rfl ?_
  refine am_q_iconst (v := nI 2) rfl rfl ?_
  refine am_q_iadd rfl (nI_add _ _) ?_
  refine am_q_iload_n rfl rfl ?_
  refine am_q_iconst (v := nI 2) rfl rfl ?_
  refine am_q_ineN rfl (by omega) (by omega) (fun c_123 => ?_) (fun c_123 => absurd c_123 (by omega))
  refine am_q_iconst (v := nI 0) rfl rfl ?_
  refine am_q_iast rfl rfl (am_ix_nI (show 125 + 3 * Y.1 + 2 < 250 by omega) (by decide)) rfl ?_
  refine am_q_iinc [some _, some _, some _, some _] rfl (c := nI 1) rfl rfl (Nat.le_of_ble_eq_true rfl) (nI_add _ _) rfl ?_
  subst h0
  refine K _ _ _ (mP_c hP1 (fun k => ⟨(am_up_ne (by omega)).trans (am_up_ne (by omega)), (am_up_ne (by omega)).trans (am_up_ne (by omega))⟩) ((am_up_ne (by omega)).trans (am_up_ne (by omega))) ((am_up_ne (by omega)).trans (am_up_ne (by omega))) (fun k => ⟨rfl, rfl⟩)) (mYd_A hD ((am_up_ne (by omega)).trans ((am_up_ne (by omega)).trans am_up_eq)) ((am_up_ne (by omega)).trans am_up_eq) am_up_eq (fun k hk => (am_up_ne (by omega)).trans ((am_up_ne (by omega)).trans ((am_up_ne (by omega)).trans (am_up_ne (by omega)))))) (frMy_tr (frMy_tr (frMy_tr (frMy_3 (by omega)) (frMy_y (by omega))) (frMy_y (by omega))) (frMy_y (by omega)))

theorem m_yl4 (d n i : Nat) {X : tTp} {V : sVal} {nm : Nat → Nat} {Y : sYear} {μ : am_M2} {ν : am_N2} (l2 l3 : Option Value) (hX : tpOk X) (hO : vOk V) (hY : Y.1 ≤ 40) (hV : mVal μ V) (hn : mNmR ν 0 nm (vN V)) (hP : mP μ ν X i) (hD : mYd μ Y) (hk : ¬ kd X i = 0) (Q : am_R → Prop) {e : Nat} (he : e ≤ 3) (hd : isDd X i = some e) (h40 : ¬ 40 ≤ Y.1) (h0 : e ≠ 0) (h2 : e ≠ 2) {c : Nat} (hp : pTold X nm (vN V) (i + 1) = .inl c) (K : ∀ (C : Nat) (l2 l3 : Option Value) (μ' : am_M2), μ' 133 8 = nI c → 0 < c → c < 2 ^ 20 → frMy μ μ' → am_w (d + 4) (Option.some FieldType.int) am_g214 145 [some (.ref 133), some (.int (nI C)), l2, l3] [] (am_hp n μ' ν) Q) : am_w (d + 4) (Option.some FieldType.int) am_g214 30 [some (.ref 133), some (.int (nI (Y.1))), l2, l3] [] (am_hp n μ ν) (Q) := by
  have h6 := hO.1.1
  have hP8 := hO.1.2.1
  have hi1 := tN_s hP.2.2.2.2 hk
  have hw := m_wordHere0 (d + 2) 7 4 (by decide) n i ν hX hP
  rw [dd_wh, hd] at hw
  dsimp only [oI] at hw
  have hP1 : mP (am_up (am_up μ 133 7 (nI (i + 1))) 142 (125 + 3 * Y.1) (nI e)) ν X (i + 1) := mP_c (mP_at hP hi1) (fun k => ⟨am_up_ne (by omega), am_up_ne (by omega)⟩) (am_up_ne (by omega)) (am_up_ne (by omega)) (fun k => ⟨rfl, rfl⟩)
  have hV1 : mVal (am_up (am_up μ 133 7 (nI (i + 1))) 142 (125 + 3 * Y.1) (nI e)) V := mVal_c (fun a ha => by funext k; rw [am_up_ne (by omega), am_up_ne (by omega)]) hV
  have hA := hP.2.2.1
  obtain ⟨w0, w1⟩ := tol_b (m := 0) hX (tol_0.trans hp)
  refine am_q_aload_n rfl rfl ?_
  refine am_q_bipush (v := nI 7) rfl rfl ?_
  refine am_q_iconst (v := nI 4) rfl rfl ?_
  refine am_q_call rfl rfl (hw) rfl ?_
  refine am_q_istore_n [some _, some _, some _, _] rfl (Nat.le_of_ble_eq_true rfl) rfl ?_
  refine am_q_iload_n rfl rfl ?_
  refine am_q_zgeN rfl (by omega) (fun c_39 => ?_) (fun c_39 => absurd c_39 (by omega))
  refine am_q_iload_n rfl rfl ?_
  refine am_q_bipush (v := nI 40) rfl rfl ?_
  refine am_q_ineN rfl (by omega) (by omega) (fun c_53 => ?_) (fun c_53 => absurd c_53 (by omega))
  refine am_q_aload_n rfl rfl ?_
  refine am_q_dupr rfl ?_
  refine am_q_gi rfl rfl rfl hA ?_
  refine am_q_iconst (v := nI 1) rfl rfl ?_
  refine am_q_iadd rfl (nI_add _ _) ?_
  refine am_q_pi rfl rfl rfl (Or.inl rfl) ?_
  refine am_q_bipush (v := nI 125) rfl rfl ?_
  refine am_q_iconst (v := nI 3) rfl rfl ?_
  refine am_q_iload_n rfl rfl ?_
  refine am_q_imul rfl (pk_mul _ _) ?_
  refine am_q_iadd rfl (nI_add _ _) ?_
  refine am_q_istore_n [some _, some _, some _, some _] rfl (Nat.le_of_ble_eq_true rfl) rfl ?_
  refine am_q_aload_n rfl rfl ?_
  refine am_q_gr rfl rfl rfl ?_
  refine am_q_iload_n rfl rfl ?_
  refine am_q_iload_n rfl rfl ?_
  refine am_q_iast rfl rfl (am_ix_nI (show 125 + 3 * Y.1 < 250 by omega) (by decide)) rfl ?_
  refine am_q_aload_n rfl rfl ?_
  refine am_q_gr rfl rfl rfl ?_
  refine am_q_iload_n rfl rfl ?_
  refine am_q_iconst (v := nI 1) rfl rfl ?_
  refine am_q_iadd rfl (nI_add _ _) ?_
  refine am_q_iload_n rfl rfl ?_
  refine am_q_zleN rfl (by omega) (fun c_96 => absurd c_96 (by omega)) (fun c_96 => ?_)
  refine am_q_aload_n rfl rfl ?_
  refine am_q_iconst (v := nI 0) rfl rfl ?_
  refine am_q_aload_n rfl rfl ?_
  refine am_q_call rfl rfl (m_souls (d + 3) n ν hV1) rfl ?_
  refine am_q_iconst (v := nI 0) rfl rfl ?_
  have ht := m_takeTold0 d n (i + 1) ν hX hP1 0 (vN V) (by omega) (by omega) hn 0 (by omega)
  rw [tol_0, hp] at ht
  dsimp only [mRs, mRv] at ht
  refine am_q_call rfl rfl (ht) rfl ?_
  refine am_q_goto rfl ?_
  refine am_q_iast rfl rfl (am_ix_nI (show 125 + 3 * Y.1 + 1 < 250 by omega) (by decide)) rfl ?_
  refine am_q_aload_n rfl rfl ?_
  refine am_q_gr rfl rfl rfl ?_
  refine am_q_iload_n rfl rfl ?_
  refine am_q_iconst (v := nI 2) rfl rfl ?_
  refine am_q_iadd rfl (nI_add _ _) ?_
  refine am_q_iload_n rfl rfl ?_
  refine am_q_iconst (v := nI 2) rfl rfl ?_
  refine am_q_ineN rfl (by omega) (by omega) (fun c_123 => ?_) (fun c_123 => absurd c_123 (by omega))
  refine am_q_iconst (v := nI 0) rfl rfl ?_
  refine am_q_iast rfl rfl (am_ix_nI (show 125 + 3 * Y.1 + 2 < 250 by omega) (by decide)) rfl ?_
  refine am_q_iinc [some _, some _, some _, some _] rfl (c := nI 1) rfl rfl (Nat.le_of_ble_eq_true rfl) (nI_add _ _) rfl ?_
  exact K _ _ _ _ ((am_up_ne (by omega)).trans ((am_up_ne (by omega)).trans am_up_eq)) w0 w1 (frMy_tr (frMy_tr (frMy_tr (frMy_tr (frMy_3 (by omega)) (frMy_y (by omega))) (frMy_3 (by omega))) (frMy_y (by omega))) (frMy_y (by omega)))

theorem m_yl6 (d n i : Nat) {X : tTp} {V : sVal} {nm : Nat → Nat} {Y : sYear} {μ : am_M2} {ν : am_N2} (l2 l3 : Option Value) (hX : tpOk X) (hO : vOk V) (hY : Y.1 ≤ 40) (hV : mVal μ V) (hn : mNmR ν 0 nm (vN V)) (hP : mP μ ν X i) (hD : mYd μ Y) (hk : ¬ kd X i = 0) (Q : am_R → Prop) {e : Nat} (he : e ≤ 3) (hd : isDd X i = some e) (h40 : ¬ 40 ≤ Y.1) (h0 : e ≠ 0) (h2 : e = 2) {c : Nat} (hp : pTold X nm (vN V) (i + 1) = .inl c) (K : ∀ (C : Nat) (l2 l3 : Option Value) (μ' : am_M2), μ' 133 8 = nI c → 0 < c → c < 2 ^ 20 → frMy μ μ' → am_w (d + 4) (Option.some FieldType.int) am_g214 145 [some (.ref 133), some (.int (nI C)), l2, l3] [] (am_hp n μ' ν) Q) : am_w (d + 4) (Option.some FieldType.int) am_g214 30 [some (.ref 133), some (.int (nI (Y.1))), l2, l3] [] (am_hp n μ ν) (Q) := by
  have h6 := hO.1.1
  have hP8 := hO.1.2.1
  have hi1 := tN_s hP.2.2.2.2 hk
  have hw := m_wordHere0 (d + 2) 7 4 (by decide) n i ν hX hP
  rw [dd_wh, hd] at hw
  dsimp only [oI] at hw
  have hP1 : mP (am_up (am_up μ 133 7 (nI (i + 1))) 142 (125 + 3 * Y.1) (nI e)) ν X (i + 1) := mP_c (mP_at hP hi1) (fun k => ⟨am_up_ne (by omega), am_up_ne (by omega)⟩) (am_up_ne (by omega)) (am_up_ne (by omega)) (fun k => ⟨rfl, rfl⟩)
  have hV1 : mVal (am_up (am_up μ 133 7 (nI (i + 1))) 142 (125 + 3 * Y.1) (nI e)) V := mVal_c (fun a ha => by funext k; rw [am_up_ne (by omega), am_up_ne (by omega)]) hV
  have hA := hP.2.2.1
  obtain ⟨w0, w1⟩ := tol_b (m := 0) hX (tol_0.trans hp)
  refine am_q_aload_n rfl rfl ?_
  refine am_q_bipush (v := nI 7) rfl rfl ?_
  refine am_q_iconst (v := nI 4) rfl rfl ?_
  refine am_q_call rfl rfl (hw) rfl ?_
  refine am_q_istore_n [some _, some _, some _, _] rfl (Nat.le_of_ble_eq_true rfl) rfl ?_
  refine am_q_iload_n rfl rfl ?_
  refine am_q_zgeN rfl (by omega) (fun c_39 => ?_) (fun c_39 => absurd c_39 (by omega))
  refine am_q_iload_n rfl rfl ?_
  refine am_q_bipush (v := nI 40) rfl rfl ?_
  refine am_q_ineN rfl (by omega) (by omega) (fun c_53 => ?_) (fun c_53 => absurd c_53 (by omega))
  refine am_q_aload_n rfl rfl ?_
  refine am_q_dupr rfl ?_
  refine am_q_gi rfl rfl rfl hA ?_
  refine am_q_iconst (v := nI 1) rfl rfl ?_
  refine am_q_iadd rfl (nI_add _ _) ?_
  refine am_q_pi rfl rfl rfl (Or.inl rfl) ?_
  refine am_q_bipush (v := nI 125) rfl rfl ?_
  refine am_q_iconst (v := nI 3) rfl rfl ?_
  refine am_q_iload_n rfl rfl ?_
  refine am_q_imul rfl (pk_mul _ _) ?_
  refine am_q_iadd rfl (nI_add _ _) ?_
  refine am_q_istore_n [some _, some _, some _, some _] rfl (Nat.le_of_ble_eq_true rfl) rfl ?_
  refine am_q_aload_n rfl rfl ?_
  refine am_q_gr rfl rfl rfl ?_
  refine am_q_iload_n rfl rfl ?_
  refine am_q_iload_n rfl rfl ?_
  refine am_q_iast rfl rfl (am_ix_nI (show 125 + 3 * Y.1 < 250 by omega) (by decide)) rfl ?_
  refine am_q_aload_n rfl rfl ?_
  refine am_q_gr rfl rfl rfl ?_
  refine am_q_iload_n rfl rfl ?_
  refine am_q_iconst (v := nI 1) rfl rfl ?_
  refine am_q_iadd rfl (nI_add _ _) ?_
  refine am_q_iload_n rfl rfl ?_
  refine am_q_zleN rfl (by omega) (fun c_96 => absurd c_96 (by omega)) (fun c_96 => ?_)
  refine am_q_aload_n rfl rfl ?_
  refine am_q_iconst (v := nI 0) rfl rfl ?_
  refine am_q_aload_n rfl rfl ?_
  refine am_q_call rfl rfl (m_souls (d + 3) n ν hV1) rfl ?_
  refine am_q_iconst (v := nI 0) rfl rfl ?_
  have ht := m_takeTold0 d n (i + 1) ν hX hP1 0 (vN V) (by omega) (by omega) hn 0 (by omega)
  rw [tol_0, hp] at ht
  dsimp only [mRs, mRv] at ht
  refine am_q_call rfl rfl (ht) rfl ?_
  refine am_q_goto rfl ?_
  refine am_q_iast rfl rfl (am_ix_nI (show 125 + 3 * Y.1 + 1 < 250 by omega) (by decide)) rfl ?_
  refine am_q_aload_n rfl rfl ?_
  refine am_q_gr rfl rfl rfl ?_
  refine am_q_iload_n rfl rfl ?_
  refine am_q_iconst (v := nI 2) rfl rfl ?_
  refine am_q_iadd rfl (nI_add _ _) ?_
  refine am_q_iload_n rfl rfl ?_
  refine am_q_iconst (v := nI 2) rfl rfl ?_
  refine am_q_ineN rfl (by omega) (by omega) (fun c_123 => absurd c_123 (by omega)) (fun c_123 => ?_)
  refine am_q_aload_n rfl rfl ?_
  refine am_q_iconst (v := nI 0) rfl rfl ?_
  refine am_q_aload_n rfl rfl ?_
  have hV2 : mVal (am_up (am_up (am_up (am_up μ 133 7 (nI (i + 1))) 142 (125 + 3 * Y.1) (nI e)) 133 8 (nI c)) 142 (125 + 3 * Y.1 + 1) (nI 0)) V := mVal_c (fun a ha => by funext k; rw [am_up_ne (by omega), am_up_ne (by omega)]) hV1
  refine am_q_call rfl rfl (m_places (d + 3) n ν hV2) rfl ?_
  refine am_q_iconst (v := nI 1) rfl rfl ?_
  refine am_q_isub rfl rfl ?_
  refine am_q_call rfl rfl (m_takeNum1 (d + 2) (nI 0) _ n c ν w0 (by omega) ((am_up_ne (by omega)).trans am_up_eq)) rfl ?_
  refine am_q_goto rfl ?_
  refine am_q_iast rfl rfl (am_ix_nI (show 125 + 3 * Y.1 + 2 < 250 by omega) (by decide)) rfl ?_
  refine am_q_iinc [some _, some _, some _, some _] rfl (c := nI 1) rfl rfl (Nat.le_of_ble_eq_true rfl) (nI_add _ _) rfl ?_
  exact K _ _ _ _ ((am_up_ne (by omega)).trans ((am_up_ne (by omega)).trans am_up_eq)) w0 w1 (frMy_tr (frMy_tr (frMy_tr (frMy_tr (frMy_3 (by omega)) (frMy_y (by omega))) (frMy_3 (by omega))) (frMy_y (by omega))) (frMy_y (by omega)))

theorem m_yl5 (d n i : Nat) {X : tTp} {V : sVal} {nm : Nat → Nat} {Y : sYear} {μ : am_M2} {ν : am_N2} (l2 l3 : Option Value) (hX : tpOk X) (hO : vOk V) (hY : Y.1 ≤ 40) (hV : mVal μ V) (hn : mNmR ν 0 nm (vN V)) (hP : mP μ ν X i) (hD : mYd μ Y) (hk : ¬ kd X i = 0) (Q : am_R → Prop) {e : Nat} (he : e ≤ 3) (hd : isDd X i = some e) (h40 : ¬ 40 ≤ Y.1) (h0 : e ≠ 0) (h2 : e ≠ 2) {s : Nat} (hp : pTold X nm (vN V) (i + 1) = .inr s) (K : ∀ (l2 l3 : Option Value) (μ' : am_M2), mP μ' ν X (i + 2) → mYd μ' (yA Y e s 0) → frMy μ μ' → am_w (d + 4) (Option.some FieldType.int) am_g214 145 [some (.ref 133), some (.int (nI (Y.1 + 1))), l2, l3] [] (am_hp n μ' ν) Q) : am_w (d + 4) (Option.some FieldType.int) am_g214 30 [some (.ref 133), some (.int (nI (Y.1))), l2, l3] [] (am_hp n μ ν) (Q) := by
  have h6 := hO.1.1
  have hP8 := hO.1.2.1
  have hi1 := tN_s hP.2.2.2.2 hk
  have hw := m_wordHere0 (d + 2) 7 4 (by decide) n i ν hX hP
  rw [dd_wh, hd] at hw
  dsimp only [oI] at hw
  have hP1 : mP (am_up (am_up μ 133 7 (nI (i + 1))) 142 (125 + 3 * Y.1) (nI e)) ν X (i + 1) := mP_c (mP_at hP hi1) (fun k => ⟨am_up_ne (by omega), am_up_ne (by omega)⟩) (am_up_ne (by omega)) (am_up_ne (by omega)) (fun k => ⟨rfl, rfl⟩)
  have hV1 : mVal (am_up (am_up μ 133 7 (nI (i + 1))) 142 (125 + 3 * Y.1) (nI e)) V := mVal_c (fun a ha => by funext k; rw [am_up_ne (by omega), am_up_ne (by omega)]) hV
  have hA := hP.2.2.1
  have hi2 := tN_s hi1 (nz (pTold_s hp).1 (by decide))
  have hP2 : mP (am_up (am_up (am_up (am_up μ 133 7 (nI (i + 1))) 142 (125 + 3 * Y.1) (nI e)) 133 7 (nI (i + 1 + 1))) 142 (125 + 3 * Y.1 + 1) (nI s)) ν X (i + 1 + 1) := mP_c (mP_at hP1 hi2) (fun k => ⟨am_up_ne (by omega), am_up_ne (by omega)⟩) (am_up_ne (by omega)) (am_up_ne (by omega)) (fun k => ⟨rfl, rfl⟩)
  have hV2 : mVal (am_up (am_up (am_up (am_up μ 133 7 (nI (i + 1))) 142 (125 + 3 * Y.1) (nI e)) 133 7 (nI (i + 1 + 1))) 142 (125 + 3 * Y.1 + 1) (nI s)) V := mVal_c (fun a ha => by funext k; rw [am_up_ne (by omega), am_up_ne (by omega)]) hV1
  refine am_q_aload_n rfl rfl ?_
  refine am_q_bipush (v := nI 7) rfl rfl ?_
  refine am_q_iconst (v := nI 4) rfl rfl ?_
  refine am_q_call rfl rfl (hw) rfl ?_
  refine am_q_istore_n [some _, some _, some _, _] rfl (Nat.le_of_ble_eq_true rfl) rfl ?_
  refine am_q_iload_n rfl rfl ?_
  refine am_q_zgeN rfl (by omega) (fun c_39 => ?_) (fun c_39 => absurd c_39 (by omega))
  refine am_q_iload_n rfl rfl ?_
  refine am_q_bipush (v := nI 40) rfl rfl ?_
  refine am_q_ineN rfl (by omega) (by omega) (fun c_53 => ?_) (fun c_53 => absurd c_53 (by omega))
  refine am_q_aload_n rfl rfl ?_
  refine am_q_dupr rfl ?_
  refine am_q_gi rfl rfl rfl hA ?_
  refine am_q_iconst (v := nI 1) rfl rfl ?_
  refine am_q_iadd rfl (nI_add _ _) ?_
  refine am_q_pi rfl rfl rfl (Or.inl rfl) ?_
  refine am_q_bipush (v := nI 125) rfl rfl ?_
  refine am_q_iconst (v := nI 3) rfl rfl ?_
  refine am_q_iload_n rfl rfl ?_
  refine am_q_imul rfl (pk_mul _ _) ?_
  refine am_q_iadd rfl (nI_add _ _) ?_
  refine am_q_istore_n [some _, some _, some _, some _] rfl (Nat.le_of_ble_eq_true rfl) rfl ?_
  refine am_q_aload_n rfl rfl ?_
  refine am_q_gr rfl rfl rfl ?_
  refine am_q_iload_n rfl rfl ?_
  refine am_q_iload_n rfl rfl ?_
  refine am_q_iast rfl rfl (am_ix_nI (show 125 + 3 * Y.1 < 250 by omega) (by decide)) rfl ?_
  refine am_q_aload_n rfl rfl ?_
  refine am_q_gr rfl rfl rfl ?_
  refine am_q_iload_n rfl rfl ?_
  refine am_q_iconst (v := nI 1) rfl rfl ?_
  refine am_q_iadd rfl (nI_add _ _) ?_
  refine am_q_iload_n rfl rfl ?_
  refine am_q_zleN rfl (by omega) (fun c_96 => absurd c_96 (by omega)) (fun c_96 => ?_)
  refine am_q_aload_n rfl rfl ?_
  refine am_q_iconst (v := nI 0) rfl rfl ?_
  refine am_q_aload_n rfl rfl ?_
  refine am_q_call rfl rfl (m_souls (d + 3) n ν hV1) rfl ?_
  refine am_q_iconst (v := nI 0) rfl rfl ?_
  have ht := m_takeTold0 d n (i + 1) ν hX hP1 0 (vN V) (by omega) (by omega) hn 0 (by omega)
  rw [tol_0, hp] at ht
  dsimp only [mRs, mRv] at ht
  refine am_q_call rfl rfl (ht) rfl ?_
  refine am_q_goto rfl ?_
  refine am_q_iast rfl rfl (am_ix_nI (show 125 + 3 * Y.1 + 1 < 250 by omega) (by decide)) rfl ?_
  refine am_q_aload_n rfl rfl ?_
  refine am_q_gr rfl rfl rfl ?_
  refine am_q_iload_n rfl rfl ?_
  refine am_q_iconst (v := nI 2) rfl rfl ?_
  refine am_q_iadd rfl (nI_add _ _) ?_
  refine am_q_iload_n rfl rfl ?_
  refine am_q_iconst (v := nI 2) rfl rfl ?_
  refine am_q_ineN rfl (by omega) (by omega) (fun c_123 => ?_) (fun c_123 => absurd c_123 (by omega))
  refine am_q_iconst (v := nI 0) rfl rfl ?_
  refine am_q_iast rfl rfl (am_ix_nI (show 125 + 3 * Y.1 + 2 < 250 by omega) (by decide)) rfl ?_
  refine am_q_iinc [some _, some _, some _, some _] rfl (c := nI 1) rfl rfl (Nat.le_of_ble_eq_true rfl) (nI_add _ _) rfl ?_
  exact K _ _ _ (mP_c hP2 (fun k => ⟨am_up_ne (by omega), am_up_ne (by omega)⟩) (am_up_ne (by omega)) (am_up_ne (by omega)) (fun k => ⟨rfl, rfl⟩)) (mYd_A hD ((am_up_ne (by omega)).trans ((am_up_ne (by omega)).trans ((am_up_ne (by omega)).trans am_up_eq))) ((am_up_ne (by omega)).trans am_up_eq) am_up_eq (fun k hk => ((am_up_ne (by omega)).trans ((am_up_ne (by omega)).trans ((am_up_ne (by omega)).trans ((am_up_ne (by omega)).trans (am_up_ne (by omega)))))))) (frMy_tr (frMy_tr (frMy_tr (frMy_tr (frMy_3 (by omega)) (frMy_y (by omega))) (frMy_3 (by omega))) (frMy_y (by omega))) (frMy_y (by omega)))

theorem m_yl7 (d n i : Nat) {X : tTp} {V : sVal} {nm : Nat → Nat} {Y : sYear} {μ : am_M2} {ν : am_N2} (l2 l3 : Option Value) (hX : tpOk X) (hO : vOk V) (hY : Y.1 ≤ 40) (hV : mVal μ V) (hn : mNmR ν 0 nm (vN V)) (hP : mP μ ν X i) (hD : mYd μ Y) (hk : ¬ kd X i = 0) (Q : am_R → Prop) {e : Nat} (he : e ≤ 3) (hd : isDd X i = some e) (h40 : ¬ 40 ≤ Y.1) (h0 : e ≠ 0) (h2 : e = 2) {s : Nat} (hp : pTold X nm (vN V) (i + 1) = .inr s) {c : Nat} (hq : pNumI X (i + 1 + 1) 0 (nI (vP V) - nI 1) = .inl c) (K : ∀ (C : Nat) (l2 l3 : Option Value) (μ' : am_M2), μ' 133 8 = nI c → 0 < c → c < 2 ^ 20 → frMy μ μ' → am_w (d + 4) (Option.some FieldType.int) am_g214 145 [some (.ref 133), some (.int (nI C)), l2, l3] [] (am_hp n μ' ν) Q) : am_w (d + 4) (Option.some FieldType.int) am_g214 30 [some (.ref 133), some (.int (nI (Y.1))), l2, l3] [] (am_hp n μ ν) (Q) := by
  have h6 := hO.1.1
  have hP8 := hO.1.2.1
  have hi1 := tN_s hP.2.2.2.2 hk
  have hw := m_wordHere0 (d + 2) 7 4 (by decide) n i ν hX hP
  rw [dd_wh, hd] at hw
  dsimp only [oI] at hw
  have hP1 : mP (am_up (am_up μ 133 7 (nI (i + 1))) 142 (125 + 3 * Y.1) (nI e)) ν X (i + 1) := mP_c (mP_at hP hi1) (fun k => ⟨am_up_ne (by omega), am_up_ne (by omega)⟩) (am_up_ne (by omega)) (am_up_ne (by omega)) (fun k => ⟨rfl, rfl⟩)
  have hV1 : mVal (am_up (am_up μ 133 7 (nI (i + 1))) 142 (125 + 3 * Y.1) (nI e)) V := mVal_c (fun a ha => by funext k; rw [am_up_ne (by omega), am_up_ne (by omega)]) hV
  have hA := hP.2.2.1
  have hi2 := tN_s hi1 (nz (pTold_s hp).1 (by decide))
  have hP2 : mP (am_up (am_up (am_up (am_up μ 133 7 (nI (i + 1))) 142 (125 + 3 * Y.1) (nI e)) 133 7 (nI (i + 1 + 1))) 142 (125 + 3 * Y.1 + 1) (nI s)) ν X (i + 1 + 1) := mP_c (mP_at hP1 hi2) (fun k => ⟨am_up_ne (by omega), am_up_ne (by omega)⟩) (am_up_ne (by omega)) (am_up_ne (by omega)) (fun k => ⟨rfl, rfl⟩)
  have hV2 : mVal (am_up (am_up (am_up (am_up μ 133 7 (nI (i + 1))) 142 (125 + 3 * Y.1) (nI e)) 133 7 (nI (i + 1 + 1))) 142 (125 + 3 * Y.1 + 1) (nI s)) V := mVal_c (fun a ha => by funext k; rw [am_up_ne (by omega), am_up_ne (by omega)]) hV1
  obtain ⟨w0, w1⟩ := pNI_b hX hq
  refine am_q_aload_n rfl rfl ?_
  refine am_q_bipush (v := nI 7) rfl rfl ?_
  refine am_q_iconst (v := nI 4) rfl rfl ?_
  refine am_q_call rfl rfl (hw) rfl ?_
  refine am_q_istore_n [some _, some _, some _, _] rfl (Nat.le_of_ble_eq_true rfl) rfl ?_
  refine am_q_iload_n rfl rfl ?_
  refine am_q_zgeN rfl (by omega) (fun c_39 => ?_) (fun c_39 => absurd c_39 (by omega))
  refine am_q_iload_n rfl rfl ?_
  refine am_q_bipush (v := nI 40) rfl rfl ?_
  refine am_q_ineN rfl (by omega) (by omega) (fun c_53 => ?_) (fun c_53 => absurd c_53 (by omega))
  refine am_q_aload_n rfl rfl ?_
  refine am_q_dupr rfl ?_
  refine am_q_gi rfl rfl rfl hA ?_
  refine am_q_iconst (v := nI 1) rfl rfl ?_
  refine am_q_iadd rfl (nI_add _ _) ?_
  refine am_q_pi rfl rfl rfl (Or.inl rfl) ?_
  refine am_q_bipush (v := nI 125) rfl rfl ?_
  refine am_q_iconst (v := nI 3) rfl rfl ?_
  refine am_q_iload_n rfl rfl ?_
  refine am_q_imul rfl (pk_mul _ _) ?_
  refine am_q_iadd rfl (nI_add _ _) ?_
  refine am_q_istore_n [some _, some _, some _, some _] rfl (Nat.le_of_ble_eq_true rfl) rfl ?_
  refine am_q_aload_n rfl rfl ?_
  refine am_q_gr rfl rfl rfl ?_
  refine am_q_iload_n rfl rfl ?_
  refine am_q_iload_n rfl rfl ?_
  refine am_q_iast rfl rfl (am_ix_nI (show 125 + 3 * Y.1 < 250 by omega) (by decide)) rfl ?_
  refine am_q_aload_n rfl rfl ?_
  refine am_q_gr rfl rfl rfl ?_
  refine am_q_iload_n rfl rfl ?_
  refine am_q_iconst (v := nI 1) rfl rfl ?_
  refine am_q_iadd rfl (nI_add _ _) ?_
  refine am_q_iload_n rfl rfl ?_
  refine am_q_zleN rfl (by omega) (fun c_96 => absurd c_96 (by omega)) (fun c_96 => ?_)
  refine am_q_aload_n rfl rfl ?_
  refine am_q_iconst (v := nI 0) rfl rfl ?_
  refine am_q_aload_n rfl rfl ?_
  refine am_q_call rfl rfl (m_souls (d + 3) n ν hV1) rfl ?_
  refine am_q_iconst (v := nI 0) rfl rfl ?_
  have ht := m_takeTold0 d n (i + 1) ν hX hP1 0 (vN V) (by omega) (by omega) hn 0 (by omega)
  rw [tol_0, hp] at ht
  dsimp only [mRs, mRv] at ht
  refine am_q_call rfl rfl (ht) rfl ?_
  refine am_q_goto rfl ?_
  refine am_q_iast rfl rfl (am_ix_nI (show 125 + 3 * Y.1 + 1 < 250 by omega) (by decide)) rfl ?_
  refine am_q_aload_n rfl rfl ?_
  refine am_q_gr rfl rfl rfl ?_
  refine am_q_iload_n rfl rfl ?_
  refine am_q_iconst (v := nI 2) rfl rfl ?_
  refine am_q_iadd rfl (nI_add _ _) ?_
  refine am_q_iload_n rfl rfl ?_
  refine am_q_iconst (v := nI 2) rfl rfl ?_
  refine am_q_ineN rfl (by omega) (by omega) (fun c_123 => absurd c_123 (by omega)) (fun c_123 => ?_)
  refine am_q_aload_n rfl rfl ?_
  refine am_q_iconst (v := nI 0) rfl rfl ?_
  refine am_q_aload_n rfl rfl ?_
  refine am_q_call rfl rfl (m_places (d + 3) n ν hV2) rfl ?_
  refine am_q_iconst (v := nI 1) rfl rfl ?_
  refine am_q_isub rfl rfl ?_
  have hu := m_takeNum0 (d + 2) 0 (by decide) (nI (vP V) - nI 1) n (i + 1 + 1) ν hX hP2
  rw [hq] at hu
  dsimp only [mRs, mRv] at hu
  refine am_q_call rfl rfl (hu) rfl ?_
  refine am_q_goto rfl ?_
  refine am_q_iast rfl rfl (am_ix_nI (show 125 + 3 * Y.1 + 2 < 250 by omega) (by decide)) rfl ?_
  refine am_q_iinc [some _, some _, some _, some _] rfl (c := nI 1) rfl rfl (Nat.le_of_ble_eq_true rfl) (nI_add _ _) rfl ?_
  exact K _ _ _ _ ((am_up_ne (by omega)).trans am_up_eq) w0 w1 (frMy_tr (frMy_tr (frMy_tr (frMy_tr (frMy_tr (frMy_3 (by omega)) (frMy_y (by omega))) (frMy_3 (by omega))) (frMy_y (by omega))) (frMy_3 (by omega))) (frMy_y (by omega)))

theorem m_yl8 (d n i : Nat) {X : tTp} {V : sVal} {nm : Nat → Nat} {Y : sYear} {μ : am_M2} {ν : am_N2} (l2 l3 : Option Value) (hX : tpOk X) (hO : vOk V) (hY : Y.1 ≤ 40) (hV : mVal μ V) (hn : mNmR ν 0 nm (vN V)) (hP : mP μ ν X i) (hD : mYd μ Y) (hk : ¬ kd X i = 0) (Q : am_R → Prop) {e : Nat} (he : e ≤ 3) (hd : isDd X i = some e) (h40 : ¬ 40 ≤ Y.1) (h0 : e ≠ 0) (h2 : e = 2) {s : Nat} (hp : pTold X nm (vN V) (i + 1) = .inr s) {p : Nat} (hq : pNumI X (i + 1 + 1) 0 (nI (vP V) - nI 1) = .inr p) (K : ∀ (l2 l3 : Option Value) (μ' : am_M2), mP μ' ν X (i + 3) → mYd μ' (yA Y e s p) → frMy μ μ' → am_w (d + 4) (Option.some FieldType.int) am_g214 145 [some (.ref 133), some (.int (nI (Y.1 + 1))), l2, l3] [] (am_hp n μ' ν) Q) : am_w (d + 4) (Option.some FieldType.int) am_g214 30 [some (.ref 133), some (.int (nI (Y.1))), l2, l3] [] (am_hp n μ ν) (Q) := by
  have h6 := hO.1.1
  have hP8 := hO.1.2.1
  have hi1 := tN_s hP.2.2.2.2 hk
  have hw := m_wordHere0 (d + 2) 7 4 (by decide) n i ν hX hP
  rw [dd_wh, hd] at hw
  dsimp only [oI] at hw
  have hP1 : mP (am_up (am_up μ 133 7 (nI (i + 1))) 142 (125 + 3 * Y.1) (nI e)) ν X (i + 1) := mP_c (mP_at hP hi1) (fun k => ⟨am_up_ne (by omega), am_up_ne (by omega)⟩) (am_up_ne (by omega)) (am_up_ne (by omega)) (fun k => ⟨rfl, rfl⟩)
  have hV1 : mVal (am_up (am_up μ 133 7 (nI (i + 1))) 142 (125 + 3 * Y.1) (nI e)) V := mVal_c (fun a ha => by funext k; rw [am_up_ne (by omega), am_up_ne (by omega)]) hV
  have hA := hP.2.2.1
  have hi2 := tN_s hi1 (nz (pTold_s hp).1 (by decide))
  have hP2 : mP (am_up (am_up (am_up (am_up μ 133 7 (nI (i + 1))) 142 (125 + 3 * Y.1) (nI e)) 133 7 (nI (i + 1 + 1))) 142 (125 + 3 * Y.1 + 1) (nI s)) ν X (i + 1 + 1) := mP_c (mP_at hP1 hi2) (fun k => ⟨am_up_ne (by omega), am_up_ne (by omega)⟩) (am_up_ne (by omega)) (am_up_ne (by omega)) (fun k => ⟨rfl, rfl⟩)
  have hV2 : mVal (am_up (am_up (am_up (am_up μ 133 7 (nI (i + 1))) 142 (125 + 3 * Y.1) (nI e)) 133 7 (nI (i + 1 + 1))) 142 (125 + 3 * Y.1 + 1) (nI s)) V := mVal_c (fun a ha => by funext k; rw [am_up_ne (by omega), am_up_ne (by omega)]) hV1
  obtain ⟨w0, w1⟩ := pNI_p hP8 hq
  have hi3 := tN_s hi2 (nz w1 (by decide))
  refine am_q_aload_n rfl rfl ?_
  refine am_q_bipush (v := nI 7) rfl rfl ?_
  refine am_q_iconst (v := nI 4) rfl rfl ?_
  refine am_q_call rfl rfl (hw) rfl ?_
  refine am_q_istore_n [some _, some _, some _, _] rfl (Nat.le_of_ble_eq_true rfl) rfl ?_
  refine am_q_iload_n rfl rfl ?_
  refine am_q_zgeN rfl (by omega) (fun c_39 => ?_) (fun c_39 => absurd c_39 (by omega))
  refine am_q_iload_n rfl rfl ?_
  refine am_q_bipush (v := nI 40) rfl rfl ?_
  refine am_q_ineN rfl (by omega) (by omega) (fun c_53 => ?_) (fun c_53 => absurd c_53 (by omega))
  refine am_q_aload_n rfl rfl ?_
  refine am_q_dupr rfl ?_
  refine am_q_gi rfl rfl rfl hA ?_
  refine am_q_iconst (v := nI 1) rfl rfl ?_
  refine am_q_iadd rfl (nI_add _ _) ?_
  refine am_q_pi rfl rfl rfl (Or.inl rfl) ?_
  refine am_q_bipush (v := nI 125) rfl rfl ?_
  refine am_q_iconst (v := nI 3) rfl rfl ?_
  refine am_q_iload_n rfl rfl ?_
  refine am_q_imul rfl (pk_mul _ _) ?_
  refine am_q_iadd rfl (nI_add _ _) ?_
  refine am_q_istore_n [some _, some _, some _, some _] rfl (Nat.le_of_ble_eq_true rfl) rfl ?_
  refine am_q_aload_n rfl rfl ?_
  refine am_q_gr rfl rfl rfl ?_
  refine am_q_iload_n rfl rfl ?_
  refine am_q_iload_n rfl rfl ?_
  refine am_q_iast rfl rfl (am_ix_nI (show 125 + 3 * Y.1 < 250 by omega) (by decide)) rfl ?_
  refine am_q_aload_n rfl rfl ?_
  refine am_q_gr rfl rfl rfl ?_
  refine am_q_iload_n rfl rfl ?_
  refine am_q_iconst (v := nI 1) rfl rfl ?_
  refine am_q_iadd rfl (nI_add _ _) ?_
  refine am_q_iload_n rfl rfl ?_
  refine am_q_zleN rfl (by omega) (fun c_96 => absurd c_96 (by omega)) (fun c_96 => ?_)
  refine am_q_aload_n rfl rfl ?_
  refine am_q_iconst (v := nI 0) rfl rfl ?_
  refine am_q_aload_n rfl rfl ?_
  refine am_q_call rfl rfl (m_souls (d + 3) n ν hV1) rfl ?_
  refine am_q_iconst (v := nI 0) rfl rfl ?_
  have ht := m_takeTold0 d n (i + 1) ν hX hP1 0 (vN V) (by omega) (by omega) hn 0 (by omega)
  rw [tol_0, hp] at ht
  dsimp only [mRs, mRv] at ht
  refine am_q_call rfl rfl (ht) rfl ?_
  refine am_q_goto rfl ?_
  refine am_q_iast rfl rfl (am_ix_nI (show 125 + 3 * Y.1 + 1 < 250 by omega) (by decide)) rfl ?_
  refine am_q_aload_n rfl rfl ?_
  refine am_q_gr rfl rfl rfl ?_
  refine am_q_iload_n rfl rfl ?_
  refine am_q_iconst (v := nI 2) rfl rfl ?_
  refine am_q_iadd rfl (nI_add _ _) ?_
  refine am_q_iload_n rfl rfl ?_
  refine am_q_iconst (v := nI 2) rfl rfl ?_
  refine am_q_ineN rfl (by omega) (by omega) (fun c_123 => absurd c_123 (by omega)) (fun c_123 => ?_)
  refine am_q_aload_n rfl rfl ?_
  refine am_q_iconst (v := nI 0) rfl rfl ?_
  refine am_q_aload_n rfl rfl ?_
  refine am_q_call rfl rfl (m_places (d + 3) n ν hV2) rfl ?_
  refine am_q_iconst (v := nI 1) rfl rfl ?_
  refine am_q_isub rfl rfl ?_
  have hu := m_takeNum0 (d + 2) 0 (by decide) (nI (vP V) - nI 1) n (i + 1 + 1) ν hX hP2
  rw [hq] at hu
  dsimp only [mRs, mRv] at hu
  refine am_q_call rfl rfl (hu) rfl ?_
  refine am_q_goto rfl ?_
  refine am_q_iast rfl rfl (am_ix_nI (show 125 + 3 * Y.1 + 2 < 250 by omega) (by decide)) rfl ?_
  refine am_q_iinc [some _, some _, some _, some _] rfl (c := nI 1) rfl rfl (Nat.le_of_ble_eq_true rfl) (nI_add _ _) rfl ?_
  exact K _ _ _ (mP_c (mP_at hP2 hi3) (fun k => ⟨am_up_ne (by omega), am_up_ne (by omega)⟩) (am_up_ne (by omega)) (am_up_ne (by omega)) (fun k => ⟨rfl, rfl⟩)) (mYd_A hD ((am_up_ne (by omega)).trans ((am_up_ne (by omega)).trans ((am_up_ne (by omega)).trans ((am_up_ne (by omega)).trans am_up_eq)))) ((am_up_ne (by omega)).trans ((am_up_ne (by omega)).trans am_up_eq)) am_up_eq (fun k hk => ((am_up_ne (by omega)).trans ((am_up_ne (by omega)).trans ((am_up_ne (by omega)).trans ((am_up_ne (by omega)).trans ((am_up_ne (by omega)).trans (am_up_ne (by omega))))))))) (frMy_tr (frMy_tr (frMy_tr (frMy_tr (frMy_tr (frMy_3 (by omega)) (frMy_y (by omega))) (frMy_3 (by omega))) (frMy_y (by omega))) (frMy_3 (by omega))) (frMy_y (by omega)))

theorem m_yl (d n i : Nat) {X : tTp} {V : sVal} {nm : Nat → Nat} {Y : sYear} {μ : am_M2} {ν : am_N2} (l2 l3 : Option Value) (hX : tpOk X) (hO : vOk V) (hY : Y.1 ≤ 40) (hV : mVal μ V) (hn : mNmR ν 0 nm (vN V)) (hP : mP μ ν X i) (hD : mYd μ Y) (hk : ¬ kd X i = 0) (Q : am_R → Prop) (K : mlK X n d μ ν Q (pYl X V nm i Y)) : am_w (d + 4) (Option.some FieldType.int) am_g214 30 [some (.ref 133), some (.int (nI Y.1)), l2, l3] [] (am_hp n μ ν) Q := by
  unfold pYl at K
  cases hd : isDd X i with
  | none => rw [hd] at K; exact m_yl1 d n i l2 l3 hX hO hY hV hn hP hD hk Q hd K
  | some e =>
    have he := (isDd_s hd).2
    rw [hd] at K
    dsimp only at K
    by_cases h40 : 40 ≤ Y.1
    · rw [if_pos h40] at K
      exact m_yl2 d n i l2 l3 hX hO hY hV hn hP hD hk Q he hd h40 K
    rw [if_neg h40] at K
    by_cases h0 : e = 0
    · rw [if_pos h0] at K
      exact m_yl3 d n i l2 l3 hX hO hY hV hn hP hD hk Q he hd h40 h0 K
    rw [if_neg h0] at K
    cases hp : pTold X nm (vN V) (i + 1) with
    | inl c =>
      rw [hp] at K
      by_cases h2 : e = 2
      · exact m_yl6 d n i l2 l3 hX hO hY hV hn hP hD hk Q he hd h40 h0 h2 hp K
      · exact m_yl4 d n i l2 l3 hX hO hY hV hn hP hD hk Q he hd h40 h0 h2 hp K
    | inr s =>
      rw [hp] at K
      dsimp only at K
      by_cases h2 : e = 2
      · rw [if_pos h2] at K
        cases hq : pNumI X (i + 2) 0 (nI (vP V) - nI 1) with
        | inl c => rw [hq] at K; exact m_yl7 d n i l2 l3 hX hO hY hV hn hP hD hk Q he hd h40 h0 h2 hp hq K
        | inr p => rw [hq] at K; exact m_yl8 d n i l2 l3 hX hO hY hV hn hP hD hk Q he hd h40 h0 h2 hp hq K
      · rw [if_neg h2] at K
        exact m_yl5 d n i l2 l3 hX hO hY hV hn hP hD hk Q he hd h40 h0 h2 hp K