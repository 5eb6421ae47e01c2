theorem jnt_y {X : tTp} {l i : Nat} {x : Int} (h : jnt X l i = some x) : lvO (tkc X i) = some l ∧ x = jtO (tkc X i) := by
  unfold jnt at h
  split at h
  · rename_i c; cases h; exact ⟨c, rfl⟩
  · cases h
theorem jnt_n {X : tTp} {l i : Nat} (h : jnt X l i = none) : ¬ lvO (tkc X i) = some l := fun c => by unfold jnt at h; rw [if_pos c] at h; cases h
theorem lvI_n {c l : Nat} (hl : l ≤ 3) (hc : c < 148) (h : ¬ lvO c = some l) : ¬ lvI c = nI l := fun z => by
  unfold lvI at z
  rcases lv_cs c hc with e | e | e | e | e <;> rw [e] at z h
  · rcases (show l = 0 ∨ l = 1 ∨ l = 2 ∨ l = 3 by omega) with rfl | rfl | rfl | rfl <;> exact absurd z (by decide)
  · exact h (by rw [(nI_eq (by decide) (by omega)).mp z])
  · exact h (by rw [(nI_eq (by decide) (by omega)).mp z])
  · exact h (by rw [(nI_eq (by decide) (by omega)).mp z])
  · exact h (by rw [(nI_eq (by decide) (by omega)).mp z])
theorem jnt_ofn {X : tTp} {l i : Nat} (c : ¬ lvI (tkc X i) = nI l) : jnt X l i = none := by
  cases hj2 : jnt X l i with
  | none => rfl
  | some x => exact absurd (by unfold lvI; rw [(jnt_y hj2).1]) c
theorem jnt_ofy {X : tTp} {l i : Nat} (hl : l ≤ 3) (ht : tkc X i < 148) (c : lvI (tkc X i) = nI l) : ∃ x, jnt X l i = some x := by
  cases hj2 : jnt X l i with
  | some x => exact ⟨x, rfl⟩
  | none => exact absurd c (lvI_n hl ht (jnt_n hj2))
theorem s_lvF (d n l dp : Nat) {X : tTp} (hX : tpOk X) (hl : l ≤ 3) (P : Nat → List Int → Nat ⊕ pSt) (hG : pGd X P) (hC : lwC X n (d + 5) P 47 [.int (nI (l + 1)), .int (nI dp)]) (it : Nat) (hit : it ≤ 1000) (μ : am_M2) (ν : am_N2) (o7 : Option Value) (Q : am_R → Prop) (hQ : Q (some (.int (sB false)), am_hp n μ ν)) : am_w (d + 5) (Option.some FieldType.boolean) am_g47 40 [some (.ref 24), some (.ref 3), some (.int (nI l)), some (.int (nI dp)), some (.int (sB (false))), some (.int (nI ((if l = 1 then 1 else 1000)))), some (.int (nI it)), o7] [] (am_hp n μ ν) (Q) := by
  have hmx : (if l = 1 then 1 else 1000) ≤ 1000 := by split <;> omega
  refine am_q_iload rfl rfl ?_
  refine am_q_iload rfl rfl ?_
  refine am_q_igeN rfl (by omega) (by omega) (fun c_44 => ?_) (fun c_44 => ?_)
  · refine am_q_iload rfl rfl ?_
    refine am_q_ireturn rfl rfl (sB_ok _) ?_
    exact hQ
  · refine am_q_iload rfl rfl ?_
    refine am_q_if_eqB rfl (fun c_49 => ?_) (fun c_49 => by simp at c_49)
    refine am_q_iload rfl rfl ?_
    refine am_q_ireturn rfl rfl (sB_ok _) ?_
    exact hQ

theorem s_lvL (d n l dp : Nat) {X : tTp} (hX : tpOk X) (hl : l ≤ 3) (P : Nat → List Int → Nat ⊕ pSt) (hG : pGd X P) (hC : lwC X n (d + 5) P 47 [.int (nI (l + 1)), .int (nI dp)]) : ∀ (m j : Nat) (i : Nat) (p : List Int) (μ : am_M2) (ν : am_N2) (o7 : Option Value), j + m = (if l = 1 then 1 else 1000) → xTk μ ν X i ∧ xLg ν ∧ lawSt μ p ∧ p.length ≤ i ∧ i ≤ tN X → am_w (d + 5) (Option.some FieldType.boolean) am_g47 40 [some (.ref 24), some (.ref 3), some (.int (nI l)), some (.int (nI dp)), some (.int (sB (true))), some (.int (nI ((if l = 1 then 1 else 1000)))), some (.int (nI j)), o7] [] (am_hp n μ ν) (lwQ X n μ ν (levL P (jnt X l) m i p)) := by
  intro m
  induction m with
  | zero =>
    intro j i p μ ν o7 hj hinv
    have hmx : (if l = 1 then 1 else 1000) ≤ 1000 := by split <;> omega
    obtain ⟨hT, hL, hS, hpl, hiT⟩ := hinv
    refine am_q_iload rfl rfl ?_
    refine am_q_iload rfl rfl ?_
    refine am_q_igeN rfl (by omega) (by omega) (fun c_44 => ?_) (fun c_44 => absurd c_44 (by omega))
    refine am_q_iload rfl rfl ?_
    refine am_q_ireturn rfl rfl (sB_ok _) ?_
    exact ⟨_, _, rfl, hT, hS, frLw_rf μ, frKL_rf ν⟩
  | succ m ih =>
    intro j i p μ ν o7 hj hinv
    have hmx : (if l = 1 then 1 else 1000) ≤ 1000 := by split <;> omega
    obtain ⟨hT, hL, hS, hpl, hiT⟩ := hinv
    have ht := tkc_148 X i
    have hTX := tN_le X
    have h1000 := hX.1
    refine am_q_iload rfl rfl ?_
    refine am_q_iload rfl rfl ?_
    refine am_q_igeN rfl (by omega) (by omega) (fun c_44 => absurd c_44 (by omega)) (fun c_44 => ?_)
    refine am_q_iload rfl rfl ?_
    refine am_q_if_eqB rfl (fun c_49 => by simp at c_49) (fun c_49 => ?_)
    refine am_q_aload_n rfl rfl ?_
    refine am_q_gi rfl rfl rfl hT.2.2.2.1 ?_
    refine am_q_call rfl rfl (s_levelOf _ (tkc X i) ht _) rfl ?_
    refine am_q_iload_n rfl rfl ?_
    refine am_q_icmp_ne rfl (fun c_60 => ?_) (fun c_60 => ?_)
    · have hjn := jnt_ofn c_60
      refine am_q_iload rfl rfl ?_
      refine am_q_ireturn rfl rfl (sB_ok _) ?_
      unfold levL
      rw [hjn]
      exact ⟨_, _, rfl, hT, hS, frLw_rf μ, frKL_rf ν⟩
    · obtain ⟨x, hjx⟩ := jnt_ofy hl ht c_60
      obtain ⟨hlo, hxo⟩ := jnt_y hjx
      have hi1 := tN_s hiT (jnt_k hjx)
      refine am_q_aload_n rfl rfl ?_
      refine am_q_gi rfl rfl rfl hT.2.2.2.1 ?_
      refine am_q_call rfl rfl (s_jointOf _ (tkc X i) (by rw [hlo]; rfl) _) rfl ?_
      refine am_q_istore [some _, some _, some _, some _, some _, some _, some _, some _] rfl (Nat.le_of_ble_eq_true rfl) rfl ?_
      refine am_q_aload_n rfl rfl ?_
      obtain ⟨μ2, ν2, hc2, hT2, hf2, hl2⟩ := s_step (d + 1) n (i + 1) ν hX hT.1 hT.2.1 hL
      refine am_q_call rfl rfl (hc2) rfl ?_
      refine am_q_aload_n rfl rfl ?_
      refine am_q_aload_n rfl rfl ?_
      refine am_q_iload_n rfl rfl ?_
      refine am_q_iconst (v := nI 1) rfl rfl ?_
      refine am_q_iadd rfl (nI_add _ _) ?_
      refine am_q_iload_n rfl rfl ?_
      obtain ⟨y, hy, hq⟩ := hC (i + 1) p μ2 ν2 hT2 (xLg_S hl2 hL) (lawSt_3 (frT3_K hf2) hS) (by omega) hi1
      have hfa := frLw_3 (frT3_K hf2)
      unfold levL
      rw [hjx]
      show am_w _ _ _ _ _ _ _ (lwQ X n μ ν (match P (i + 1) p with | .inl c => .inl c | .inr q => levL P (jnt X l) m q.1 (q.2 ++ [x])))
      cases hP : P (i + 1) p with
      | inl c =>
        rw [hP] at hq
        obtain ⟨μ3, ν3, L3, rfl, b1, b2, b3, b4, b5⟩ := hq
        obtain ⟨μ4, L4, hc4, c1, c2, c3⟩ := s_putA (d + 4) n L3 b3 (Int32.ofInt (jtO (tkc X i))) ν3 b2
        refine am_q_call rfl rfl hy rfl ?_
        refine am_q_istore [some _, some _, some _, some _, some _, some _, some _, some _] rfl (Nat.le_of_ble_eq_true rfl) rfl ?_
        refine am_q_aload_n rfl rfl ?_
        refine am_q_iload rfl rfl ?_
        refine am_q_call rfl rfl hc4 rfl ?_
        refine am_q_iinc [some _, some _, some _, some _, some _, some _, some _, some _] rfl (c := nI 1) rfl rfl (Nat.le_of_ble_eq_true rfl) (nI_add _ _) rfl ?_
        refine am_q_goto rfl ?_
        refine s_lvF d n l dp hX hl P hG hC (j + 1) (by omega) μ4 ν3 _ _ ?_
        exact ⟨μ4, ν3, L4, rfl, (c3 3 7 (by omega) (by omega)).trans b1, c1, c2, fun a b z1 z2 z3 => (c3 a b z2 z3).trans ((b4 a b z1 z2 z3).trans (hfa a b z1 z2 z3)), frKL_tr hl2 b5⟩
      | inr q =>
        rw [hP] at hq
        obtain ⟨μ3, ν3, rfl, b1, b2, b3, b4⟩ := hq
        obtain ⟨g1, g2, g3⟩ := hG (i + 1) p q hi1 hP
        have hc4 := s_put1 (d + 4) n q.2.length (by omega) (Int32.ofInt (jtO (tkc X i))) ν3 b2.1
        refine am_q_call rfl rfl hy rfl ?_
        refine am_q_istore [some _, some _, some _, some _, some _, some _, some _, some _] rfl (Nat.le_of_ble_eq_true rfl) rfl ?_
        refine am_q_aload_n rfl rfl ?_
        refine am_q_iload rfl rfl ?_
        refine am_q_call rfl rfl hc4 rfl ?_
        refine am_q_iinc [some _, some _, some _, some _, some _, some _, some _, some _] rfl (c := nI 1) rfl rfl (Nat.le_of_ble_eq_true rfl) (nI_add _ _) rfl ?_
        refine am_q_goto rfl ?_
        have hx2 : ∀ a b, ¬ (a = 24 ∧ b = 2) → a ≠ 25 → am_up (am_up μ3 25 q.2.length (Int32.ofInt (jtO (tkc X i)))) 24 2 (nI (q.2.length + 1)) a b = μ3 a b := fun a b z1 z2 => by rw [am_up_ne (by omega), am_up_ne (by omega)]
        refine am_w_mono (fun r hr => ?_) (ih (j + 1) q.1 (q.2 ++ [x]) (am_up (am_up μ3 25 q.2.length (Int32.ofInt (jtO (tkc X i)))) 24 2 (nI (q.2.length + 1))) ν3 _ (by omega) ⟨xTk_c (fun a b z => hx2 a b (by omega) (by omega)) rfl b1, xLg_S b4 (xLg_S hl2 hL), lawSt_push (by rw [hxo]) b2, by rw [List.length_append]; show q.2.length + 1 ≤ q.1; omega, g2⟩)
        exact lwQ_tr (frLw_tr hfa (frLw_tr b3 (fun a b z1 z2 z3 => hx2 a b z2 z3))) (frKL_tr hl2 b4) hr

theorem s_lvM (d n l dp : Nat) (hl : l ≤ 3) (b : Bool) (μ : am_M2) (ν : am_N2) (Q : am_R → Prop) (K : ∀ o7, am_w (d + 5) (Option.some FieldType.boolean) am_g47 40 [some (.ref 24), some (.ref 3), some (.int (nI l)), some (.int (nI dp)), some (.int (sB b)), some (.int (nI (if l = 1 then 1 else 1000))), some (.int (nI 0)), o7] [] (am_hp n μ ν) Q) : am_w (d + 5) (Option.some FieldType.boolean) am_g47 21 [some (.ref 24), some (.ref 3), some (.int (nI l)), some (.int (nI dp)), none, none, none, none] [.int (sB b)] (am_hp n μ ν) (Q) := by
  refine am_q_istore [some _, some _, some _, some _, some _, none, none, none] rfl (Nat.le_of_ble_eq_true rfl) rfl ?_
  refine am_q_iload_n rfl rfl ?_
  refine am_q_iconst (v := nI 1) rfl rfl ?_
  refine am_q_ineN rfl (by omega) (by omega) (fun c_25 => ?_) (fun c_25 => ?_)
  · refine am_q_sipush (v := nI 1000) rfl rfl ?_
    refine am_q_istore [some _, some _, some _, some _, some _, some _, none, none] rfl (Nat.le_of_ble_eq_true rfl) rfl ?_
    refine am_q_iconst (v := nI 0) rfl rfl ?_
    refine am_q_istore [some _, some _, some _, some _, some _, some _, some _, none] rfl (Nat.le_of_ble_eq_true rfl) rfl ?_
    first | (have e := K none; rw [if_neg c_25] at e; exact e) | (have e := K none; rw [if_pos c_25] at e; exact e)
  · refine am_q_iconst (v := nI 1) rfl rfl ?_
    refine am_q_goto rfl ?_
    refine am_q_istore [some _, some _, some _, some _, some _, some _, none, none] rfl (Nat.le_of_ble_eq_true rfl) rfl ?_
    refine am_q_iconst (v := nI 0) rfl rfl ?_
    refine am_q_istore [some _, some _, some _, some _, some _, some _, some _, none] rfl (Nat.le_of_ble_eq_true rfl) rfl ?_
    first | (have e := K none; rw [if_neg c_25] at e; exact e) | (have e := K none; rw [if_pos c_25] at e; exact e)

theorem s_lv (d n l dp : Nat) {X : tTp} (hX : tpOk X) (hl : l ≤ 3) (P : Nat → List Int → Nat ⊕ pSt) (hG : pGd X P) (hC : lwC X n (d + 5) P 47 [.int (nI (l + 1)), .int (nI dp)]) (i : Nat) (p : List Int) (μ : am_M2) (ν : am_N2) (hT : xTk μ ν X i) (hL : xLg ν) (hS : lawSt μ p) (hpl : p.length ≤ i) (hiT : i ≤ tN X) : am_w (d + 5) (Option.some FieldType.boolean) am_g47 0 [some (.ref 24), some (.ref 3), some (.int (nI l)), some (.int (nI dp)), none, none, none, none] [] (am_hp n μ ν) (lwQ X n μ ν (lev P (jnt X l) (if l = 1 then 1 else 1000) i p)) := by
  have hTX := tN_le X
  have h1000 := hX.1
  obtain ⟨y, hy, hq⟩ := hC i p μ ν hT hL hS hpl hiT
  refine am_q_iload_n rfl rfl ?_
  refine am_q_iconst (v := nI 3) rfl rfl ?_
  refine am_q_ileN rfl (by omega) (by omega) (fun c_2 => ?_) (fun c_2 => absurd c_2 (by omega))
  refine am_q_aload_n rfl rfl ?_
  refine am_q_aload_n rfl rfl ?_
  refine am_q_iload_n rfl rfl ?_
  refine am_q_iconst (v := nI 1) rfl rfl ?_
  refine am_q_iadd rfl (nI_add _ _) ?_
  refine am_q_iload_n rfl rfl ?_
  unfold lev
  cases hP : P i p with
  | inl c =>
    rw [hP] at hq
    obtain ⟨μ3, ν3, L3, rfl, b1, b2, b3, b4, b5⟩ := hq
    refine am_q_call rfl rfl hy rfl ?_
    exact s_lvM d n l dp hl false μ3 ν3 _ (fun o => s_lvF d n l dp hX hl P hG hC 0 (by omega) μ3 ν3 o _ ⟨μ3, ν3, L3, rfl, b1, b2, b3, b4, b5⟩)
  | inr q =>
    rw [hP] at hq
    obtain ⟨μ3, ν3, rfl, b1, b2, b3, b4⟩ := hq
    obtain ⟨g1, g2, g3⟩ := hG i p q hiT hP
    refine am_q_call rfl rfl hy rfl ?_
    refine s_lvM d n l dp hl true μ3 ν3 _ (fun o => ?_)
    refine am_w_mono (fun r hr => lwQ_tr b3 b4 hr) ?_
    exact s_lvL d n l dp hX hl P hG hC (if l = 1 then 1 else 1000) 0 q.1 q.2 μ3 ν3 o (by omega) ⟨b1, xLg_S b4 hL, b2, by omega, g2⟩

theorem lwC_lv (d n l dp : Nat) {X : tTp} (hX : tpOk X) (hl : l ≤ 3) (P : Nat → List Int → Nat ⊕ pSt) (hG : pGd X P) (hC : lwC X n (d + 5) P 47 [.int (nI (l + 1)), .int (nI dp)]) : lwC X n (d + 6) (lev P (jnt X l) (if l = 1 then 1 else 1000)) 47 [.int (nI l), .int (nI dp)] := fun i p μ ν hT hL hS hpl hiT =>
  am_run_wE (k := 47) (d := d + 5) rfl rfl (Nat.le_of_ble_eq_true rfl) [some (.ref 24), some (.ref 3), some (.int (nI l)), some (.int (nI dp)), none, none, none, none] rfl (s_lv d n l dp hX hl P hG hC i p μ ν hT hL hS hpl hiT)
theorem s_lv4 (d n dp : Nat) {X : tTp} (P : Nat → List Int → Nat ⊕ pSt) (hC : lwC X n (d + 5) P 48 [.int (nI dp)]) (i : Nat) (p : List Int) (μ : am_M2) (ν : am_N2) (hT : xTk μ ν X i) (hL : xLg ν) (hS : lawSt μ p) (hpl : p.length ≤ i) (hiT : i ≤ tN X) : am_w (d + 5) (Option.some FieldType.boolean) am_g47 0 [some (.ref 24), some (.ref 3), some (.int (nI 4)), some (.int (nI dp)), none, none, none, none] [] (am_hp n μ ν) (lwQ X n μ ν (P i p)) := by
  obtain ⟨y, hy, hq⟩ := hC i p μ ν hT hL hS hpl hiT
  refine am_q_iload_n rfl rfl ?_
  refine am_q_iconst (v := nI 3) rfl rfl ?_
  refine am_q_ileN rfl (by omega) (by omega) (fun c_2 => absurd c_2 (by omega)) (fun c_2 => ?_)
  refine am_q_aload_n rfl rfl ?_
  refine am_q_aload_n rfl rfl ?_
  refine am_q_iload_n rfl rfl ?_
  cases hP : P i p with
  | inl c =>
    rw [hP] at hq
    obtain ⟨μ3, ν3, L3, rfl, b1, b2, b3, b4, b5⟩ := hq
    refine am_q_call rfl rfl hy rfl ?_
    refine am_q_ireturn rfl rfl (sB_ok _) ?_
    exact ⟨μ3, ν3, L3, rfl, b1, b2, b3, b4, b5⟩
  | inr q =>
    rw [hP] at hq
    obtain ⟨μ3, ν3, rfl, b1, b2, b3, b4⟩ := hq
    refine am_q_call rfl rfl hy rfl ?_
    refine am_q_ireturn rfl rfl (sB_ok _) ?_
    exact ⟨μ3, ν3, rfl, b1, b2, b3, b4⟩

theorem lwC_4 (d n dp : Nat) {X : tTp} (P : Nat → List Int → Nat ⊕ pSt) (hC : lwC X n (d + 5) P 48 [.int (nI dp)]) : lwC X n (d + 6) P 47 [.int (nI 4), .int (nI dp)] := fun i p μ ν hT hL hS hpl hiT =>
  am_run_wE (k := 47) (d := d + 5) rfl rfl (Nat.le_of_ble_eq_true rfl) [some (.ref 24), some (.ref 3), some (.int (nI 4)), some (.int (nI dp)), none, none, none, none] rfl (s_lv4 d n dp P hC i p μ ν hT hL hS hpl hiT)
theorem lwC_0 (d n dp : Nat) {X : tTp} (hX : tpOk X) (P : Nat → List Int → Nat ⊕ pSt) (hG : pGd X P) (hC : lwC X n (d + 5) P 48 [.int (nI dp)]) : lwC X n (d + 10) (lv0 X P) 47 [.int (nI 0), .int (nI dp)] :=
  lwC_lv (d + 4) n 0 dp hX (by decide) _ (lev_gd (lev_gd (lev_gd hG))) (lwC_lv (d + 3) n 1 dp hX (by decide) _ (lev_gd (lev_gd hG)) (lwC_lv (d + 2) n 2 dp hX (by decide) _ (lev_gd hG) (lwC_lv (d + 1) n 3 dp hX (by decide) _ hG (lwC_4 d n dp P hC))))