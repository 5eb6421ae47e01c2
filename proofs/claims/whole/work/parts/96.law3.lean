theorem lfI_n {X : tTp} {i : Nat} (h : leafV X i = none) : lfI X i = -99 := by unfold lfI; rw [h]
theorem lfI_s {X : tTp} {i : Nat} {x : Int} (h : leafV X i = some x) : lfI X i = Int32.ofInt x ∧ ¬ Int32.ofInt x = -99 ∧ -4 ≤ x ∧ x < 10000 := by
  have e : lfI X i = Int32.ofInt x := by unfold lfI; rw [h]
  have hb : -4 ≤ x ∧ x < 10000 := by
    unfold leafV at h
    split at h
    · rename_i h3; have := kd_nu h3; cases h; omega
    · split at h
      · repeat' split at h
        all_goals (cases h; try omega)
      · cases h
  refine ⟨e, fun z => ?_, hb⟩
  have := congrArg Int32.toInt z
  rw [lw_ofInt (by omega) (by omega), show (-99 : Int32).toInt = -99 from by decide] at this
  omega
theorem lw_wr {X : tTp} {n i k : Nat} {μ : am_M2} {ν : am_N2} {p : List Int} (hS : lawSt μ p) (hp : p.length ≤ 1000) : lwQ X n μ ν (.inl (wr X i k)) (some (.int (sB false)), am_hp n (am_up μ 3 7 (nI (wr X i k))) ν) :=
  ⟨_, _, p.length, rfl, am_up_eq, (am_up_ne (by omega)).trans hS.1, hp, frLw_3 frT3_7, frKL_rf ν⟩
theorem s_ptA (d n dp : Nat) {X : tTp} (hX : tpOk X) (hdp : dp ≤ 5) (i : Nat) (p : List Int) (μ : am_M2) (ν : am_N2) (hT : xTk μ ν X i) (hL : xLg ν) (hS : lawSt μ p) (hpl : p.length ≤ i) (hiT : i ≤ tN X) (h0 : leafV X i = none) (h1 : ¬ isWd X i 15 = true) (h2 : ¬ isSg X i 40 = true) : am_w (d + 5) (Option.some FieldType.boolean) am_g48 0 [some (.ref 24), some (.ref 3), some (.int (nI dp)), none, none, none] [] (am_hp n μ ν) (lwQ X n μ ν (.inl (wr X i 1))) := by
  have hTX := tN_le X
  have h1000 := hX.1
  have ht := tkc_lt X i
  have hz := lfI_n h0
  refine am_q_aload_n rfl rfl ?_
  refine am_q_call rfl rfl (s_leafOf _ n i ν hX hT) rfl ?_
  refine am_q_istore_n [some _, some _, some _, some _, none, none] rfl (Nat.le_of_ble_eq_true rfl) rfl ?_
  refine am_q_aload_n rfl rfl ?_
  refine am_q_gi rfl rfl rfl hT.2.2.2.1 ?_
  refine am_q_bipush (v := nI 40) rfl rfl ?_
  refine am_q_ineN rfl (by omega) (by omega) (fun c_11 => ?_) (fun c_11 => absurd c_11 (fun z => h2 ((tkc_s (c := 40) (by decide)).mp z)))
  refine am_q_iconst (v := nI 0) rfl rfl ?_
  refine am_q_istore [some _, some _, some _, some _, some _, none] rfl (Nat.le_of_ble_eq_true rfl) rfl ?_
  refine am_q_iload_n rfl rfl ?_
  refine am_q_bipush (v := -99) rfl rfl ?_
  refine am_q_icmp_ne rfl (fun c_24 => absurd hz c_24) (fun c_24 => ?_)
  refine am_q_iload rfl rfl ?_
  refine am_q_zneN rfl (by omega) (fun c_29 => absurd c_29 (by omega)) (fun c_29 => ?_)
  refine am_q_aload_n rfl rfl ?_
  refine am_q_gi rfl rfl rfl hT.2.2.2.1 ?_
  refine am_q_sipush (v := nI 143) rfl rfl ?_
  refine am_q_ieqN rfl (by omega) (by omega) (fun c_39 => absurd c_39 (fun z => h1 ((tkc_w (r := 15) (by decide)).mp z))) (fun c_39 => ?_)
  refine am_q_aload_n rfl rfl ?_
  refine am_q_iconst (v := nI 1) rfl rfl ?_
  refine am_q_call rfl rfl (s_wrong _ 1 n i ν hT.2.2.1) rfl ?_
  refine am_q_ireturn rfl rfl (sB_ok _) ?_
  exact lw_wr hS (by omega)

theorem s_ptBL (d n dp : Nat) {X : tTp} (hX : tpOk X) (hdp : dp ≤ 5) (i : Nat) (p : List Int) (μ : am_M2) (ν : am_N2) (hT : xTk μ ν X i) (hL : xLg ν) (hS : lawSt μ p) (hpl : p.length ≤ i) (hiT : i ≤ tN X) (x : Int) (h0 : leafV X i = some x) (h5 : dp = 5) : am_w (d + 5) (Option.some FieldType.boolean) am_g48 0 [some (.ref 24), some (.ref 3), some (.int (nI dp)), none, none, none] [] (am_hp n μ ν) (lwQ X n μ ν (.inl (wr X i 5))) := by
  have hTX := tN_le X
  have h1000 := hX.1
  have ht := tkc_lt X i
  obtain ⟨z1, z2, z3, z4⟩ := lfI_s h0
  refine am_q_aload_n rfl rfl ?_
  refine am_q_call rfl rfl (s_leafOf _ n i ν hX hT) rfl ?_
  refine am_q_istore_n [some _, some _, some _, some _, none, none] rfl (Nat.le_of_ble_eq_true rfl) rfl ?_
  refine am_q_aload_n rfl rfl ?_
  refine am_q_gi rfl rfl rfl hT.2.2.2.1 ?_
  refine am_q_bipush (v := nI 40) rfl rfl ?_
  refine am_q_ineN rfl (by omega) (by omega) (fun c_11 => ?_) (fun c_11 => ?_)
  · refine am_q_iconst (v := nI 0) rfl rfl ?_
    refine am_q_istore [some _, some _, some _, some _, some _, none] rfl (Nat.le_of_ble_eq_true rfl) rfl ?_
    refine am_q_iload_n rfl rfl ?_
    refine am_q_bipush (v := -99) rfl rfl ?_
    refine am_q_icmp_ne rfl (fun c_24 => ?_) (fun c_24 => absurd (z1.symm.trans c_24) z2)
    refine am_q_iload_n rfl rfl ?_
    refine am_q_iconst (v := nI 5) rfl rfl ?_
    refine am_q_iltN rfl (by omega) (by omega) (fun c_50 => absurd c_50 (by omega)) (fun c_50 => ?_)
    refine am_q_aload_n rfl rfl ?_
    refine am_q_iconst (v := nI 5) rfl rfl ?_
    refine am_q_call rfl rfl (s_wrong _ 5 n i ν hT.2.2.1) rfl ?_
    refine am_q_ireturn rfl rfl (sB_ok _) ?_
    exact lw_wr hS (by omega)
  · refine am_q_iconst (v := nI 1) rfl rfl ?_
    refine am_q_goto rfl ?_
    refine am_q_istore [some _, some _, some _, some _, some _, none] rfl (Nat.le_of_ble_eq_true rfl) rfl ?_
    refine am_q_iload_n rfl rfl ?_
    refine am_q_bipush (v := -99) rfl rfl ?_
    refine am_q_icmp_ne rfl (fun c_24 => ?_) (fun c_24 => absurd (z1.symm.trans c_24) z2)
    refine am_q_iload_n rfl rfl ?_
    refine am_q_iconst (v := nI 5) rfl rfl ?_
    refine am_q_iltN rfl (by omega) (by omega) (fun c_50 => absurd c_50 (by omega)) (fun c_50 => ?_)
    refine am_q_aload_n rfl rfl ?_
    refine am_q_iconst (v := nI 5) rfl rfl ?_
    refine am_q_call rfl rfl (s_wrong _ 5 n i ν hT.2.2.1) rfl ?_
    refine am_q_ireturn rfl rfl (sB_ok _) ?_
    exact lw_wr hS (by omega)

theorem s_ptBN (d n dp : Nat) {X : tTp} (hX : tpOk X) (hdp : dp ≤ 5) (i : Nat) (p : List Int) (μ : am_M2) (ν : am_N2) (hT : xTk μ ν X i) (hL : xLg ν) (hS : lawSt μ p) (hpl : p.length ≤ i) (hiT : i ≤ tN X) (h0 : leafV X i = none) (h1 : isWd X i 15 = true) (h5 : dp = 5) : am_w (d + 5) (Option.some FieldType.boolean) am_g48 0 [some (.ref 24), some (.ref 3), some (.int (nI dp)), none, none, none] [] (am_hp n μ ν) (lwQ X n μ ν (.inl (wr X i 5))) := by
  have hTX := tN_le X
  have h1000 := hX.1
  have ht := tkc_lt X i
  have hz := lfI_n h0
  have hw := (tkc_w (r := 15) (by decide)).mpr h1
  refine am_q_aload_n rfl rfl ?_
  refine am_q_call rfl rfl (s_leafOf _ n i ν hX hT) rfl ?_
  refine am_q_istore_n [some _, some _, some _, some _, none, none] rfl (Nat.le_of_ble_eq_true rfl) rfl ?_
  refine am_q_aload_n rfl rfl ?_
  refine am_q_gi rfl rfl rfl hT.2.2.2.1 ?_
  refine am_q_bipush (v := nI 40) rfl rfl ?_
  refine am_q_ineN rfl (by omega) (by omega) (fun c_11 => ?_) (fun c_11 => absurd c_11 (by rw [hw]; decide))
  refine am_q_iconst (v := nI 0) rfl rfl ?_
  refine am_q_istore [some _, some _, some _, some _, some _, none] rfl (Nat.le_of_ble_eq_true rfl) rfl ?_
  refine am_q_iload_n rfl rfl ?_
  refine am_q_bipush (v := -99) rfl rfl ?_
  refine am_q_icmp_ne rfl (fun c_24 => absurd hz c_24) (fun c_24 => ?_)
  refine am_q_iload rfl rfl ?_
  refine am_q_zneN rfl (by omega) (fun c_29 => absurd c_29 (by omega)) (fun c_29 => ?_)
  refine am_q_aload_n rfl rfl ?_
  refine am_q_gi rfl rfl rfl hT.2.2.2.1 ?_
  refine am_q_sipush (v := nI 143) rfl rfl ?_
  refine am_q_ieqN rfl (by omega) (by omega) (fun c_39 => ?_) (fun c_39 => absurd hw c_39)
  refine am_q_iload_n rfl rfl ?_
  refine am_q_iconst (v := nI 5) rfl rfl ?_
  refine am_q_iltN rfl (by omega) (by omega) (fun c_50 => absurd c_50 (by omega)) (fun c_50 => ?_)
  refine am_q_aload_n rfl rfl ?_
  refine am_q_iconst (v := nI 5) rfl rfl ?_
  refine am_q_call rfl rfl (s_wrong _ 5 n i ν hT.2.2.1) rfl ?_
  refine am_q_ireturn rfl rfl (sB_ok _) ?_
  exact lw_wr hS (by omega)

theorem s_ptBP (d n dp : Nat) {X : tTp} (hX : tpOk X) (hdp : dp ≤ 5) (i : Nat) (p : List Int) (μ : am_M2) (ν : am_N2) (hT : xTk μ ν X i) (hL : xLg ν) (hS : lawSt μ p) (hpl : p.length ≤ i) (hiT : i ≤ tN X) (h0 : leafV X i = none) (h2 : isSg X i 40 = true) (h5 : dp = 5) : am_w (d + 5) (Option.some FieldType.boolean) am_g48 0 [some (.ref 24), some (.ref 3), some (.int (nI dp)), none, none, none] [] (am_hp n μ ν) (lwQ X n μ ν (.inl (wr X i 5))) := by
  have hTX := tN_le X
  have h1000 := hX.1
  have ht := tkc_lt X i
  have hz := lfI_n h0
  have hw := (tkc_s (c := 40) (by decide)).mpr h2
  refine am_q_aload_n rfl rfl ?_
  refine am_q_call rfl rfl (s_leafOf _ n i ν hX hT) rfl ?_
  refine am_q_istore_n [some _, some _, some _, some _, none, none] rfl (Nat.le_of_ble_eq_true rfl) rfl ?_
  refine am_q_aload_n rfl rfl ?_
  refine am_q_gi rfl rfl rfl hT.2.2.2.1 ?_
  refine am_q_bipush (v := nI 40) rfl rfl ?_
  refine am_q_ineN rfl (by omega) (by omega) (fun c_11 => absurd hw c_11) (fun c_11 => ?_)
  refine am_q_iconst (v := nI 1) rfl rfl ?_
  refine am_q_goto rfl ?_
  refine am_q_istore [some _, some _, some _, some _, some _, none] rfl (Nat.le_of_ble_eq_true rfl) rfl ?_
  refine am_q_iload_n rfl rfl ?_
  refine am_q_bipush (v := -99) rfl rfl ?_
  refine am_q_icmp_ne rfl (fun c_24 => absurd hz c_24) (fun c_24 => ?_)
  refine am_q_iload rfl rfl ?_
  refine am_q_zneN rfl (by omega) (fun c_29 => ?_) (fun c_29 => absurd c_29 (by omega))
  refine am_q_iload_n rfl rfl ?_
  refine am_q_iconst (v := nI 5) rfl rfl ?_
  refine am_q_iltN rfl (by omega) (by omega) (fun c_50 => absurd c_50 (by omega)) (fun c_50 => ?_)
  refine am_q_aload_n rfl rfl ?_
  refine am_q_iconst (v := nI 5) rfl rfl ?_
  refine am_q_call rfl rfl (s_wrong _ 5 n i ν hT.2.2.1) rfl ?_
  refine am_q_ireturn rfl rfl (sB_ok _) ?_
  exact lw_wr hS (by omega)

theorem s_ptL (d n dp : Nat) {X : tTp} (hX : tpOk X) (hdp : dp ≤ 5) (i : Nat) (p : List Int) (μ : am_M2) (ν : am_N2) (hT : xTk μ ν X i) (hL : xLg ν) (hS : lawSt μ p) (hpl : p.length ≤ i) (hiT : i ≤ tN X) (x : Int) (h0 : leafV X i = some x) (h5 : dp < 5) : am_w (d + 5) (Option.some FieldType.boolean) am_g48 0 [some (.ref 24), some (.ref 3), some (.int (nI dp)), none, none, none] [] (am_hp n μ ν) (lwQ X n μ ν (.inr (i + 1, p ++ [x]))) := by
  have hTX := tN_le X
  have h1000 := hX.1
  have ht := tkc_lt X i
  obtain ⟨z1, z2, z3, z4⟩ := lfI_s h0
  have hi1 := tN_s hiT (leaf_k h0)
  refine am_q_aload_n rfl rfl ?_
  refine am_q_call rfl rfl (s_leafOf _ n i ν hX hT) rfl ?_
  refine am_q_istore_n [some _, some _, some _, some _, none, none] rfl (Nat.le_of_ble_eq_true rfl) rfl ?_
  refine am_q_aload_n rfl rfl ?_
  refine am_q_gi rfl rfl rfl hT.2.2.2.1 ?_
  refine am_q_bipush (v := nI 40) rfl rfl ?_
  refine am_q_ineN rfl (by omega) (by omega) (fun c_11 => ?_) (fun c_11 => ?_)
  · refine am_q_iconst (v := nI 0) rfl rfl ?_
    refine am_q_istore [some _, some _, some _, some _, some _, none] rfl (Nat.le_of_ble_eq_true rfl) rfl ?_
    refine am_q_iload_n rfl rfl ?_
    refine am_q_bipush (v := -99) rfl rfl ?_
    refine am_q_icmp_ne rfl (fun c_24 => ?_) (fun c_24 => absurd (z1.symm.trans c_24) z2)
    refine am_q_iload_n rfl rfl ?_
    refine am_q_iconst (v := nI 5) rfl rfl ?_
    refine am_q_iltN rfl (by omega) (by omega) (fun c_50 => ?_) (fun c_50 => absurd c_50 (by omega))
    refine am_q_aload_n rfl rfl ?_
    obtain ⟨μ2, ν2, hc2, hT2, hf2, hl2⟩ := s_step (d + 1) n (i + 1) ν hX hT.1 hT.2.1 hL
    refine am_q_call rfl rfl (hc2) rfl ?_
    refine am_q_iload_n rfl rfl ?_
    refine am_q_bipush (v := -99) rfl rfl ?_
    refine am_q_icmp_eq rfl (fun c_66 => absurd (z1.symm.trans c_66) z2) (fun c_66 => ?_)
    refine am_q_aload_n rfl rfl ?_
    refine am_q_iload_n rfl rfl ?_
    refine am_q_call rfl rfl (s_put1 _ n p.length (by omega) (lfI X i) ν2 ((hf2 24 2 (by omega)).trans hS.1)) rfl ?_
    refine am_q_iconst (v := nI 1) rfl rfl ?_
    refine am_q_ireturn rfl rfl rfl ?_
    have hx2 : ∀ a b, ¬ (a = 24 ∧ b = 2) → a ≠ 25 → (am_up (am_up μ2 25 p.length (lfI X i)) 24 2 (nI (p.length + 1))) a b = μ2 a b := fun a b z1 z2 => by rw [am_up_ne (by omega), am_up_ne (by omega)]
    exact ⟨_, _, rfl, xTk_c (fun a b z => hx2 a b (by omega) (by omega)) rfl hT2, lawSt_push z1 (lawSt_3 (frT3_K hf2) hS), frLw_tr (frLw_3 (frT3_K hf2)) (fun a b y1 y2 y3 => hx2 a b y2 y3), hl2⟩
  · refine am_q_iconst (v := nI 1) rfl rfl ?_
    refine am_q_goto rfl ?_
    refine am_q_istore [some _, some _, some _, some _, some _, none] rfl (Nat.le_of_ble_eq_true rfl) rfl ?_
    refine am_q_iload_n rfl rfl ?_
    refine am_q_bipush (v := -99) rfl rfl ?_
    refine am_q_icmp_ne rfl (fun c_24 => ?_) (fun c_24 => absurd (z1.symm.trans c_24) z2)
    refine am_q_iload_n rfl rfl ?_
    refine am_q_iconst (v := nI 5) rfl rfl ?_
    refine am_q_iltN rfl (by omega) (by omega) (fun c_50 => ?_) (fun c_50 => absurd c_50 (by omega))
    refine am_q_aload_n rfl rfl ?_
    obtain ⟨μ2, ν2, hc2, hT2, hf2, hl2⟩ := s_step (d + 1) n (i + 1) ν hX hT.1 hT.2.1 hL
    refine am_q_call rfl rfl (hc2) rfl ?_
    refine am_q_iload_n rfl rfl ?_
    refine am_q_bipush (v := -99) rfl rfl ?_
    refine am_q_icmp_eq rfl (fun c_66 => absurd (z1.symm.trans c_66) z2) (fun c_66 => ?_)
    refine am_q_aload_n rfl rfl ?_
    refine am_q_iload_n rfl rfl ?_
    refine am_q_call rfl rfl (s_put1 _ n p.length (by omega) (lfI X i) ν2 ((hf2 24 2 (by omega)).trans hS.1)) rfl ?_
    refine am_q_iconst (v := nI 1) rfl rfl ?_
    refine am_q_ireturn rfl rfl rfl ?_
    have hx2 : ∀ a b, ¬ (a = 24 ∧ b = 2) → a ≠ 25 → (am_up (am_up μ2 25 p.length (lfI X i)) 24 2 (nI (p.length + 1))) a b = μ2 a b := fun a b z1 z2 => by rw [am_up_ne (by omega), am_up_ne (by omega)]
    exact ⟨_, _, rfl, xTk_c (fun a b z => hx2 a b (by omega) (by omega)) rfl hT2, lawSt_push z1 (lawSt_3 (frT3_K hf2) hS), frLw_tr (frLw_3 (frT3_K hf2)) (fun a b y1 y2 y3 => hx2 a b y2 y3), hl2⟩

theorem s_ptN (d n dp : Nat) {X : tTp} (hX : tpOk X) (hdp : dp ≤ 5) (i : Nat) (p : List Int) (μ : am_M2) (ν : am_N2) (hT : xTk μ ν X i) (hL : xLg ν) (hS : lawSt μ p) (hpl : p.length ≤ i) (hiT : i ≤ tN X) (h0 : leafV X i = none) (h1 : isWd X i 15 = true) (h5 : dp < 5) (P : Nat → List Int → Nat ⊕ pSt) (hG : pGd X P) (hC : lwC X n (d + 5) P 48 [.int (nI (dp + 1))]) : am_w (d + 5) (Option.some FieldType.boolean) am_g48 0 [some (.ref 24), some (.ref 3), some (.int (nI dp)), none, none, none] [] (am_hp n μ ν) (lwQ X n μ ν (match P (i + 1) p with | .inl c => .inl c | .inr q => .inr (q.1, q.2 ++ [-5]))) := by
  have hTX := tN_le X
  have h1000 := hX.1
  have ht := tkc_lt X i
  have hz := lfI_n h0
  have hw := (tkc_w (r := 15) (by decide)).mpr h1
  have hi1 := tN_s hiT (wd_k h1)
  refine am_q_aload_n rfl rfl ?_
  refine am_q_call rfl rfl (s_leafOf _ n i ν hX hT) rfl ?_
  refine am_q_istore_n [some _, some _, some _, some _, none, none] rfl (Nat.le_of_ble_eq_true rfl) rfl ?_
  refine am_q_aload_n rfl rfl ?_
  refine am_q_gi rfl rfl rfl hT.2.2.2.1 ?_
  refine am_q_bipush (v := nI 40) rfl rfl ?_
  refine am_q_ineN rfl (by omega) (by omega) (fun c_11 => ?_) (fun c_11 => absurd c_11 (by rw [hw]; decide))
  refine am_q_iconst (v := nI 0) rfl rfl ?_
  refine am_q_istore [some _, some _, some _, some _, some _, none] rfl (Nat.le_of_ble_eq_true rfl) rfl ?_
  refine am_q_iload_n rfl rfl ?_
  refine am_q_bipush (v := -99) rfl rfl ?_
  refine am_q_icmp_ne rfl (fun c_24 => absurd hz c_24) (fun c_24 => ?_)
  refine am_q_iload rfl rfl ?_
  refine am_q_zneN rfl (by omega) (fun c_29 => absurd c_29 (by omega)) (fun c_29 => ?_)
  refine am_q_aload_n rfl rfl ?_
  refine am_q_gi rfl rfl rfl hT.2.2.2.1 ?_
  refine am_q_sipush (v := nI 143) rfl rfl ?_
  refine am_q_ieqN rfl (by omega) (by omega) (fun c_39 => ?_) (fun c_39 => absurd hw c_39)
  refine am_q_iload_n rfl rfl ?_
  refine am_q_iconst (v := nI 5) rfl rfl ?_
  refine am_q_iltN rfl (by omega) (by omega) (fun c_50 => ?_) (fun c_50 => absurd c_50 (by omega))
  refine am_q_aload_n rfl rfl ?_
  obtain ⟨μ2, ν2, hc2, hT2, hf2, hl2⟩ := s_step (d + 1) n (i + 1) ν hX hT.1 hT.2.1 hL
  refine am_q_call rfl rfl (hc2) rfl ?_
  refine am_q_iload_n rfl rfl ?_
  refine am_q_bipush (v := -99) rfl rfl ?_
  refine am_q_icmp_eq rfl (fun c_66 => ?_) (fun c_66 => absurd hz c_66)
  refine am_q_iload rfl rfl ?_
  refine am_q_zneN rfl (by omega) (fun c_78 => absurd c_78 (by omega)) (fun c_78 => ?_)
  refine am_q_aload_n rfl rfl ?_
  refine am_q_aload_n rfl rfl ?_
  refine am_q_iload_n rfl rfl ?_
  refine am_q_iconst (v := nI 1) rfl rfl ?_
  refine am_q_iadd rfl (nI_add _ _) ?_
  obtain ⟨y, hy, hq⟩ := hC (i + 1) p μ2 ν2 hT2 (xLg_S hl2 hL) (lawSt_3 (frT3_K hf2) hS) (by omega) hi1
  have hfa := frLw_3 (frT3_K hf2)
  cases hP : P (i + 1) p with
  | inl c =>
    rw [hP] at hq
    obtain ⟨μ3, ν3, L3, rfl, b1, b2, b3, b4, b5⟩ := hq
    obtain ⟨μ4, L4, hc4, c1, c2, c3⟩ := s_putA (d + 4) n L3 b3 (-5) ν3 b2
    refine am_q_call rfl rfl hy rfl ?_
    refine am_q_istore [some _, some _, some _, some _, some _, some _] rfl (Nat.le_of_ble_eq_true rfl) rfl ?_
    refine am_q_aload_n rfl rfl ?_
    refine am_q_bipush (v := -5) rfl rfl ?_
    refine am_q_call rfl rfl hc4 rfl ?_
    refine am_q_iload rfl rfl ?_
    refine am_q_ireturn rfl rfl (sB_ok _) ?_
    exact ⟨μ4, ν3, L4, rfl, (c3 3 7 (by omega) (by omega)).trans b1, c1, c2, fun a b z1 z2 z3 => (c3 a b z2 z3).trans ((b4 a b z1 z2 z3).trans (hfa a b z1 z2 z3)), frKL_tr hl2 b5⟩
  | inr q =>
    rw [hP] at hq
    obtain ⟨μ3, ν3, rfl, b1, b2, b3, b4⟩ := hq
    obtain ⟨g1, g2, g3⟩ := hG (i + 1) p q hi1 hP
    have hc4 := s_put1 (d + 4) n q.2.length (by omega) (-5) ν3 b2.1
    have hx2 : ∀ a b, ¬ (a = 24 ∧ b = 2) → a ≠ 25 → am_up (am_up μ3 25 q.2.length (-5)) 24 2 (nI (q.2.length + 1)) a b = μ3 a b := fun a b z1 z2 => by rw [am_up_ne (by omega), am_up_ne (by omega)]
    refine am_q_call rfl rfl hy rfl ?_
    refine am_q_istore [some _, some _, some _, some _, some _, some _] rfl (Nat.le_of_ble_eq_true rfl) rfl ?_
    refine am_q_aload_n rfl rfl ?_
    refine am_q_bipush (v := -5) rfl rfl ?_
    refine am_q_call rfl rfl hc4 rfl ?_
    refine am_q_iload rfl rfl ?_
    refine am_q_ireturn rfl rfl (sB_ok _) ?_
    exact ⟨_, ν3, rfl, xTk_c (fun a b z => hx2 a b (by omega) (by omega)) rfl b1, lawSt_push rfl b2, frLw_tr hfa (frLw_tr b3 (fun a b y1 y2 y3 => hx2 a b y2 y3)), frKL_tr hl2 b4⟩

theorem s_ptP (d n dp : Nat) {X : tTp} (hX : tpOk X) (hdp : dp ≤ 5) (i : Nat) (p : List Int) (μ : am_M2) (ν : am_N2) (hT : xTk μ ν X i) (hL : xLg ν) (hS : lawSt μ p) (hpl : p.length ≤ i) (hiT : i ≤ tN X) (h0 : leafV X i = none) (h2 : isSg X i 40 = true) (h5 : dp < 5) (P : Nat → List Int → Nat ⊕ pSt) (hG : pGd X P) (hC : lwC X n (d + 5) P 47 [.int (nI 0), .int (nI (dp + 1))]) : am_w (d + 5) (Option.some FieldType.boolean) am_g48 0 [some (.ref 24), some (.ref 3), some (.int (nI dp)), none, none, none] [] (am_hp n μ ν) (lwQ X n μ ν (match P (i + 1) p with | .inl c => .inl c | .inr q => if isSg X q.1 41 = true then .inr (q.1 + 1, q.2) else .inl (wr X q.1 1))) := by
  have hTX := tN_le X
  have h1000 := hX.1
  have ht := tkc_lt X i
  have hz := lfI_n h0
  have hw := (tkc_s (c := 40) (by decide)).mpr h2
  have hi1 := tN_s hiT (sg_k h2)
  refine am_q_aload_n rfl rfl ?_
  refine am_q_call rfl rfl (s_leafOf _ n i ν hX hT) rfl ?_
  refine am_q_istore_n [some _, some _, some _, some _, none, none] rfl (Nat.le_of_ble_eq_true rfl) rfl ?_
  refine am_q_aload_n rfl rfl ?_
  refine am_q_gi rfl rfl rfl hT.2.2.2.1 ?_
  refine am_q_bipush (v := nI 40) rfl rfl ?_
  refine am_q_ineN rfl (by omega) (by omega) (fun c_11 => absurd hw c_11) (fun c_11 => ?_)
  refine am_q_iconst (v := nI 1) rfl rfl ?_
  refine am_q_goto rfl ?_
  refine am_q_istore [some _, some _, some _, some _, some _, none] rfl (Nat.le_of_ble_eq_true rfl) rfl ?_
  refine am_q_iload_n rfl rfl ?_
  refine am_q_bipush (v := -99) rfl rfl ?_
  refine am_q_icmp_ne rfl (fun c_24 => absurd hz c_24) (fun c_24 => ?_)
  refine am_q_iload rfl rfl ?_
  refine am_q_zneN rfl (by omega) (fun c_29 => ?_) (fun c_29 => absurd c_29 (by omega))
  refine am_q_iload_n rfl rfl ?_
  refine am_q_iconst (v := nI 5) rfl rfl ?_
  refine am_q_iltN rfl (by omega) (by omega) (fun c_50 => ?_) (fun c_50 => absurd c_50 (by omega))
  refine am_q_aload_n rfl rfl ?_
  obtain ⟨μ2, ν2, hc2, hT2, hf2, hl2⟩ := s_step (d + 1) n (i + 1) ν hX hT.1 hT.2.1 hL
  refine am_q_call rfl rfl (hc2) rfl ?_
  refine am_q_iload_n rfl rfl ?_
  refine am_q_bipush (v := -99) rfl rfl ?_
  refine am_q_icmp_eq rfl (fun c_66 => ?_) (fun c_66 => absurd hz c_66)
  refine am_q_iload rfl rfl ?_
  refine am_q_zneN rfl (by omega) (fun c_78 => ?_) (fun c_78 => absurd c_78 (by omega))
  refine am_q_aload_n rfl rfl ?_
  refine am_q_aload_n rfl rfl ?_
  refine am_q_iconst (v := nI 0) rfl rfl ?_
  refine am_q_iload_n rfl rfl ?_
  refine am_q_iconst (v := nI 1) rfl rfl ?_
  refine am_q_iadd rfl (nI_add _ _) ?_
  obtain ⟨y, hy, hq⟩ := hC (i + 1) p μ2 ν2 hT2 (xLg_S hl2 hL) (lawSt_3 (frT3_K hf2) hS) (by omega) hi1
  have hfa := frLw_3 (frT3_K hf2)
  cases hP : P (i + 1) p with
  | inl c =>
    rw [hP] at hq
    obtain ⟨μ3, ν3, L3, rfl, b1, b2, b3, b4, b5⟩ := hq
    refine am_q_call rfl rfl hy rfl ?_
    refine am_q_if_neB rfl (fun c => by cases c) (fun _ => ?_)
    refine am_q_iconst (v := nI 0) rfl rfl ?_
    refine am_q_ireturn rfl rfl rfl ?_
    exact ⟨μ3, ν3, L3, rfl, b1, b2, b3, frLw_tr hfa b4, frKL_tr hl2 b5⟩
  | inr q =>
    rw [hP] at hq
    obtain ⟨μ3, ν3, rfl, b1, b2, b3, b4⟩ := hq
    obtain ⟨g1, g2, g3⟩ := hG (i + 1) p q hi1 hP
    have hq1 := tkc_lt X q.1
    refine am_q_call rfl rfl hy rfl ?_
    refine am_q_if_neB rfl (fun _ => ?_) (fun c => by cases c)
    refine am_q_aload_n rfl rfl ?_
    refine am_q_gi rfl rfl rfl b1.2.2.2.1 ?_
    refine am_q_bipush (v := nI 41) rfl rfl ?_
    show am_w _ _ _ _ _ _ _ (lwQ X n μ ν (if isSg X q.1 41 = true then .inr (q.1 + 1, q.2) else .inl (wr X q.1 1)))
    refine am_q_ieqN rfl (by omega) (by omega) (fun c => ?_) (fun c => ?_)
    · obtain ⟨μ4, ν4, hc4, hT4, hf4, hl4⟩ := s_step (d + 1) n (q.1 + 1) ν3 hX b1.1 b1.2.1 (xLg_S b4 (xLg_S hl2 hL))
      rw [if_pos ((tkc_s (by decide)).mp c)]
      refine am_q_aload_n rfl rfl ?_
      refine am_q_call rfl rfl hc4 rfl ?_
      refine am_q_iconst (v := nI 1) rfl rfl ?_
      refine am_q_ireturn rfl rfl rfl ?_
      exact ⟨μ4, ν4, rfl, hT4, lawSt_3 (frT3_K hf4) b2, frLw_tr hfa (frLw_tr b3 (frLw_3 (frT3_K hf4))), frKL_tr (frKL_tr hl2 b4) hl4⟩
    · have hc4 := s_wrong (d + 4) 1 n q.1 ν3 b1.2.2.1
      rw [if_neg (fun z => c ((tkc_s (by decide)).mpr z))]
      refine am_q_aload_n rfl rfl ?_
      refine am_q_iconst (v := nI 1) rfl rfl ?_
      refine am_q_call rfl rfl hc4 rfl ?_
      refine am_q_ireturn rfl rfl (sB_ok _) ?_
      exact ⟨_, ν3, q.2.length, rfl, am_up_eq, (am_up_ne (by omega)).trans b2.1, by omega, frLw_tr hfa (frLw_tr b3 (frLw_3 frT3_7)), frKL_tr hl2 b4⟩

theorem lwC_part {X : tTp} (hX : tpOk X) (n : Nat) : ∀ r d, r ≤ 5 → lwC X n (d + 6 * r + 6) (pPart X r) 48 [.int (nI (5 - r))] := by
  intro r
  induction r with
  | zero =>
    intro d hr i p μ ν hT hL hS hpl hiT
    refine am_run_wE (k := 48) (d := d + 5) rfl rfl (Nat.le_of_ble_eq_true rfl) [some (.ref 24), some (.ref 3), some (.int (nI 5)), none, none, none] rfl ?_
    have e : pPart X 0 i p = if (leafV X i).isSome = true ∨ isWd X i 15 = true ∨ isSg X i 40 = true then .inl (wr X i 5) else .inl (wr X i 1) := rfl
    rw [e]
    cases hl : leafV X i with
    | some x => rw [if_pos (show (some x).isSome = true ∨ isWd X i 15 = true ∨ isSg X i 40 = true from Or.inl rfl)]; exact s_ptBL d n 5 hX (by decide) i p μ ν hT hL hS hpl hiT x hl rfl
    | none =>
      by_cases h1 : isWd X i 15 = true
      · rw [if_pos (Or.inr (Or.inl h1))]; exact s_ptBN d n 5 hX (by decide) i p μ ν hT hL hS hpl hiT hl h1 rfl
      · by_cases h2 : isSg X i 40 = true
        · rw [if_pos (Or.inr (Or.inr h2))]; exact s_ptBP d n 5 hX (by decide) i p μ ν hT hL hS hpl hiT hl h2 rfl
        · rw [if_neg (by rintro (z | z | z); cases z; exact h1 z; exact h2 z)]
          exact s_ptA d n 5 hX (by decide) i p μ ν hT hL hS hpl hiT hl h1 h2
  | succ r ih =>
    intro d hr i p μ ν hT hL hS hpl hiT
    have hdp : 5 - (r + 1) + 1 = 5 - r := by omega
    refine am_run_wE (k := 48) (d := d + 6 * r + 6 + 5) rfl rfl (Nat.le_of_ble_eq_true rfl) [some (.ref 24), some (.ref 3), some (.int (nI (5 - (r + 1)))), none, none, none] rfl ?_
    show am_w _ _ _ _ _ _ _ (lwQ X n μ ν (match leafV X i with
      | some x => .inr (i + 1, p ++ [x])
      | none => if isSg X i 40 = true then (match lv0 X (pPart X r) (i + 1) p with
          | .inl c => .inl c
          | .inr q => if isSg X q.1 41 = true then .inr (q.1 + 1, q.2) else .inl (wr X q.1 1))
        else if isWd X i 15 = true then (match pPart X r (i + 1) p with
          | .inl c => .inl c
          | .inr q => .inr (q.1, q.2 ++ [-5]))
        else .inl (wr X i 1)))
    cases hl : leafV X i with
    | some x => exact s_ptL (d + 6 * r + 6) n _ hX (by omega) i p μ ν hT hL hS hpl hiT x hl (by omega)
    | none =>
      by_cases h2 : isSg X i 40 = true
      · simp only [if_pos h2]
        refine s_ptP (d + 6 * r + 6) n _ hX (by omega) i p μ ν hT hL hS hpl hiT hl h2 (by omega) (lv0 X (pPart X r)) (lv0_gd (part_gd X r)) ?_
        rw [hdp]
        have := ih d (by omega)
        exact lwC_0 (d + 6 * r + 1) n _ hX _ (part_gd X r) this
      · simp only [if_neg h2]
        by_cases h1 : isWd X i 15 = true
        · simp only [if_pos h1]
          refine s_ptN (d + 6 * r + 6) n _ hX (by omega) i p μ ν hT hL hS hpl hiT hl h1 (by omega) (pPart X r) (part_gd X r) ?_
          rw [hdp]
          have := ih (d + 5) (by omega)
          rw [show d + 5 + 6 * r + 6 = d + 6 * r + 6 + 5 by omega] at this
          exact this
        · simp only [if_neg h1]
          exact s_ptA (d + 6 * r + 6) n _ hX (by omega) i p μ ν hT hL hS hpl hiT hl h1 h2
theorem lwC_whole {X : tTp} (hX : tpOk X) (n d : Nat) : lwC X n (d + 41) (lv0 X (pPart X 5)) 47 [.int (nI 0), .int (nI 0)] := lwC_0 (d + 31) n 0 hX _ (part_gd X 5) (lwC_part hX n 5 d (by decide))