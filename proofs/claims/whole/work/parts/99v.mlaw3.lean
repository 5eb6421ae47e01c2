theorem m_hasST (d c : Nat) (hcc : c < 128) (n i : Nat) {X : tTp} {μ : am_M2} (ν : am_N2) (hX : tpOk X) (hP : mP μ ν X i) (h : isSg X i c = true) : am_run (d + 2) 212 [.ref 133, .int (nI c)] (am_hp n μ ν) = some (some (.int (sB true)), am_hp n (am_up μ 133 7 (nI (i + 1))) ν) := by
  have e := m_hasSign0 d c hcc n i ν hX hP
  rw [h] at e
  exact e
theorem m_hasSF (d c : Nat) (hcc : c < 128) (n i : Nat) {X : tTp} {μ : am_M2} (ν : am_N2) (hX : tpOk X) (hP : mP μ ν X i) (h : isSg X i c = false) : am_run (d + 2) 212 [.ref 133, .int (nI c)] (am_hp n μ ν) = some (some (.int (sB false)), am_hp n μ ν) := by
  have e := m_hasSign0 d c hcc n i ν hX hP
  rw [h, if_neg Bool.false_ne_true, am_up_same (v := nI (i + 0)) hP.2.2.1] at e
  exact e
theorem m_hasWT (d c : Nat) (hcc : c < 22) (n i : Nat) {X : tTp} {μ : am_M2} (ν : am_N2) (hX : tpOk X) (hP : mP μ ν X i) (h : isWd X i c = true) : am_run (d + 2) 200 [.ref 133, .int (nI c)] (am_hp n μ ν) = some (some (.int (sB true)), am_hp n (am_up μ 133 7 (nI (i + 1))) ν) := by
  have e := m_hasWord0 d c hcc n i ν hX hP
  rw [h] at e
  exact e
theorem m_hasWF (d c : Nat) (hcc : c < 22) (n i : Nat) {X : tTp} {μ : am_M2} (ν : am_N2) (hX : tpOk X) (hP : mP μ ν X i) (h : isWd X i c = false) : am_run (d + 2) 200 [.ref 133, .int (nI c)] (am_hp n μ ν) = some (some (.int (sB false)), am_hp n μ ν) := by
  have e := m_hasWord0 d c hcc n i ν hX hP
  rw [h, if_neg Bool.false_ne_true, am_up_same (v := nI (i + 0)) hP.2.2.1] at e
  exact e
theorem m_teF (d dp i : Nat) (n c : Nat) {μ : am_M2} (ν : am_N2) (hc : 0 < c) (hc2 : c < 2 ^ 30) (hF : μ 133 8 = nI c) (hA : μ 133 7 = nI i) (Q : am_R → Prop) (K : Q (none, am_hp n μ ν)) : am_w (d + 3) (Option.none : Option FieldType) am_g206 5 [some (.ref 133), some (.int (nI dp)), none] [] (am_hp n μ ν) (Q) := by
  refine am_q_aload_n rfl rfl ?_
  refine am_q_bipush (v := nI 60) rfl rfl ?_
  refine am_q_call rfl rfl (m_isSign1 _ 60 n c ν hc hc2 hF) rfl ?_
  refine am_q_istore_n [some _, some _, some _] rfl (Nat.le_of_ble_eq_true rfl) rfl ?_
  refine am_q_aload_n rfl rfl ?_
  refine am_q_bipush (v := nI 60) rfl rfl ?_
  refine am_q_call rfl rfl (m_hasSign1 _ 60 i n c ν hc hc2 hF hA) rfl ?_
  refine am_q_if_neB rfl (fun c_18 => by simp at c_18) (fun c_18 => ?_)
  refine am_q_aload_n rfl rfl ?_
  refine am_q_bipush (v := nI 61) rfl rfl ?_
  refine am_q_call rfl rfl (m_hasSign1 _ 61 i n c ν hc hc2 hF hA) rfl ?_
  refine am_q_if_eqB rfl (fun c_27 => ?_) (fun c_27 => by simp at c_27)
  refine am_q_return rfl rfl ?_
  exact K

theorem m_teE (d n dp i : Nat) {X : tTp} {μ : am_M2} {ν : am_N2} (hX : tpOk X) (hP : mP μ ν X i) (h1 : isSg X i 60 = false) (h2 : isSg X i 61 = false) (Q : am_R → Prop) (K : Q (none, am_hp n μ ν)) : am_w (d + 3) (Option.none : Option FieldType) am_g206 5 [some (.ref 133), some (.int (nI dp)), none] [] (am_hp n μ ν) (Q) := by
  refine am_q_aload_n rfl rfl ?_
  refine am_q_bipush (v := nI 60) rfl rfl ?_
  refine am_q_call rfl rfl (m_isSF _ 60 (by decide) n i ν hX hP h1) rfl ?_
  refine am_q_istore_n [some _, some _, some _] rfl (Nat.le_of_ble_eq_true rfl) rfl ?_
  refine am_q_aload_n rfl rfl ?_
  refine am_q_bipush (v := nI 60) rfl rfl ?_
  refine am_q_call rfl rfl (m_hasSF _ 60 (by decide) n i ν hX hP h1) rfl ?_
  refine am_q_if_neB rfl (fun c_18 => by simp at c_18) (fun c_18 => ?_)
  refine am_q_aload_n rfl rfl ?_
  refine am_q_bipush (v := nI 61) rfl rfl ?_
  refine am_q_call rfl rfl (m_hasSF _ 61 (by decide) n i ν hX hP h2) rfl ?_
  refine am_q_if_eqB rfl (fun c_27 => ?_) (fun c_27 => by simp at c_27)
  refine am_q_return rfl rfl ?_
  exact K

theorem m_teA (d n dp i : Nat) {X : tTp} {μ : am_M2} {ν : am_N2} (hX : tpOk X) (hP : mP μ ν X i) (h1 : isSg X i 60 = true) (Q : am_R → Prop) (K : am_w (d + 3) (Option.none : Option FieldType) am_g206 32 [some (.ref 133), some (.int (nI dp)), some (.int (sB true))] [.int (nI dp), .ref 133] (am_hp n (am_up μ 133 7 (nI (i + 1))) ν) Q) : am_w (d + 3) (Option.none : Option FieldType) am_g206 5 [some (.ref 133), some (.int (nI dp)), none] [] (am_hp n μ ν) (Q) := by
  refine am_q_aload_n rfl rfl ?_
  refine am_q_bipush (v := nI 60) rfl rfl ?_
  refine am_q_call rfl rfl (m_isST _ 60 (by decide) n i ν hX hP h1) rfl ?_
  refine am_q_istore_n [some _, some _, some _] rfl (Nat.le_of_ble_eq_true rfl) rfl ?_
  refine am_q_aload_n rfl rfl ?_
  refine am_q_bipush (v := nI 60) rfl rfl ?_
  refine am_q_call rfl rfl (m_hasST _ 60 (by decide) n i ν hX hP h1) rfl ?_
  refine am_q_if_neB rfl (fun c_18 => ?_) (fun c_18 => by simp at c_18)
  refine am_q_aload_n rfl rfl ?_
  refine am_q_iload_n rfl rfl ?_
  exact K

theorem m_teB (d n dp i : Nat) {X : tTp} {μ : am_M2} {ν : am_N2} (hX : tpOk X) (hP : mP μ ν X i) (h1 : isSg X i 60 = false) (h2 : isSg X i 61 = true) (Q : am_R → Prop) (K : am_w (d + 3) (Option.none : Option FieldType) am_g206 32 [some (.ref 133), some (.int (nI dp)), some (.int (sB false))] [.int (nI dp), .ref 133] (am_hp n (am_up μ 133 7 (nI (i + 1))) ν) Q) : am_w (d + 3) (Option.none : Option FieldType) am_g206 5 [some (.ref 133), some (.int (nI dp)), none] [] (am_hp n μ ν) (Q) := by
  refine am_q_aload_n rfl rfl ?_
  refine am_q_bipush (v := nI 60) rfl rfl ?_
  refine am_q_call rfl rfl (m_isSF _ 60 (by decide) n i ν hX hP h1) rfl ?_
  refine am_q_istore_n [some _, some _, some _] rfl (Nat.le_of_ble_eq_true rfl) rfl ?_
  refine am_q_aload_n rfl rfl ?_
  refine am_q_bipush (v := nI 60) rfl rfl ?_
  refine am_q_call rfl rfl (m_hasSF _ 60 (by decide) n i ν hX hP h1) rfl ?_
  refine am_q_if_neB rfl (fun c_18 => by simp at c_18) (fun c_18 => ?_)
  refine am_q_aload_n rfl rfl ?_
  refine am_q_bipush (v := nI 61) rfl rfl ?_
  refine am_q_call rfl rfl (m_hasST _ 61 (by decide) n i ν hX hP h2) rfl ?_
  refine am_q_if_eqB rfl (fun c_27 => by simp at c_27) (fun c_27 => ?_)
  refine am_q_aload_n rfl rfl ?_
  refine am_q_iload_n rfl rfl ?_
  exact K

theorem m_teMA (d n dp L : Nat) {μ : am_M2} {ν : am_N2} (hL : μ 133 12 = nI L) (hL2 : L < 1100) (Q : am_R → Prop) (K : Q (none, am_hp n (am_up (am_up μ 140 (1100 + L) (nI (7 + 16 * 0))) 133 12 (nI (L + 1))) ν)) : am_w (d + 3) (Option.none : Option FieldType) am_g206 35 [some (.ref 133), some (.int (nI dp)), some (.int (sB (true)))] [] (am_hp n μ ν) (Q) := by
  refine am_q_aload_n rfl rfl ?_
  refine am_q_iload_n rfl rfl ?_
  refine am_q_if_eqB rfl (fun c_37 => by simp at c_37) (fun c_37 => ?_)
  refine am_q_bipush (v := nI 7) rfl rfl ?_
  refine am_q_goto rfl ?_
  refine am_q_iconst (v := nI 0) rfl rfl ?_
  refine am_q_call rfl rfl (m_emit _ n 7 0 L ν hL hL2) rfl ?_
  refine am_q_return rfl rfl ?_
  exact K

theorem m_teMB (d n dp L : Nat) {μ : am_M2} {ν : am_N2} (hL : μ 133 12 = nI L) (hL2 : L < 1100) (Q : am_R → Prop) (K : Q (none, am_hp n (am_up (am_up μ 140 (1100 + L) (nI (8 + 16 * 0))) 133 12 (nI (L + 1))) ν)) : am_w (d + 3) (Option.none : Option FieldType) am_g206 35 [some (.ref 133), some (.int (nI dp)), some (.int (sB (false)))] [] (am_hp n μ ν) (Q) := by
  refine am_q_aload_n rfl rfl ?_
  refine am_q_iload_n rfl rfl ?_
  refine am_q_if_eqB rfl (fun c_37 => ?_) (fun c_37 => by simp at c_37)
  refine am_q_bipush (v := nI 8) rfl rfl ?_
  refine am_q_iconst (v := nI 0) rfl rfl ?_
  refine am_q_call rfl rfl (m_emit _ n 8 0 L ν hL hL2) rfl ?_
  refine am_q_return rfl rfl ?_
  exact K

theorem m_test (d n dp : Nat) {X : tTp} (hX : tpOk X) (P : Nat → List Int → Nat ⊕ pSt) (hG : pGd X P) (hC : mlC X n (d + 3) P 207 [.int (nI dp)]) : mlC X n (d + 4) (lev P (jnt X 1) 1) 206 [.int (nI dp)] := fun i p μ ν hP hS hl => am_run_wE (k := 206) (d := d + 3) (vs := [.ref 133, .int (nI dp)]) rfl rfl (Nat.le_of_ble_eq_true rfl) [some (.ref 133), some (.int (nI dp)), none] rfl (by
  have hN := tN_1k hX
  obtain ⟨y, hy, hq⟩ := hC i p μ ν hP hS hl
  unfold lev
  refine am_q_aload_n rfl rfl ?_
  refine am_q_iload_n rfl rfl ?_
  cases hr : P i p with
  | inl c =>
    rw [hr] at hq
    obtain ⟨μ2, i2, L2, rfl, b1, b2, b3, b4, b5, b6, b7, b8⟩ := hq
    refine am_q_call rfl rfl hy rfl ?_
    exact m_teF d dp i2 n c ν b2 (by omega) b1 b4 _ ⟨μ2, i2, L2, rfl, b1, b2, b3, b4, b5, b6, b7, b8⟩
  | inr q =>
    rw [hr] at hq
    obtain ⟨μ2, rfl, b1, b2, b3⟩ := hq
    obtain ⟨g1, g2, g3⟩ := hG i p q hP.2.2.2.2 hr
    refine am_q_call rfl rfl hy rfl ?_
    show am_w _ _ _ _ _ _ _ (mlQ X n μ ν i p (levL P (jnt X 1) 1 q.1 q.2))
    unfold levL
    rw [jt1]
    by_cases h1 : isSg X q.1 60 = true
    · rw [if_pos h1]
      have hi1 := tN_s g2 (sg_k h1)
      have hP1 := mP_at b1 hi1
      have hS1 : mSt (am_up μ2 133 7 (nI (q.1 + 1))) q.2 := mSt_7 (by decide) b2
      obtain ⟨y2, hy2, hq2⟩ := hC (q.1 + 1) q.2 _ ν hP1 hS1 (by omega)
      refine m_teA d n dp q.1 hX b1 h1 _ ?_
      cases hr2 : P (q.1 + 1) q.2 with
      | inl c =>
        rw [hr2] at hq2
        obtain ⟨μ3, i2, L2, rfl, f1, f2, f3, f4, f5, f6, f7, f8⟩ := hq2
        refine am_q_call rfl rfl hy2 rfl ?_
        refine m_teMA d n dp L2 f6 (by omega) _ ?_
        exact ⟨_, i2, L2 + 1, rfl, (am_up_ne (by omega)).trans ((am_up_ne (by omega)).trans f1), f2, f3, (am_up_ne (by omega)).trans ((am_up_ne (by omega)).trans f4), f5, am_up_eq, by omega, frMl_tr b3 (frMl_tr (frMl_tr (frMl_up (by omega)) f8) frMl_em)⟩
      | inr r =>
        rw [hr2] at hq2
        obtain ⟨μ3, rfl, f1, f2, f3⟩ := hq2
        obtain ⟨u1, u2, u3⟩ := hG (q.1 + 1) q.2 r hi1 hr2
        refine am_q_call rfl rfl hy2 rfl ?_
        refine m_teMA d n dp r.2.length f2.1 (by omega) _ ?_
        exact ⟨_, rfl, mP_e f1, mSt_e (x := -8) rfl f2, frMl_tr b3 (frMl_tr (frMl_tr (frMl_up (by omega)) f3) frMl_em)⟩
    · rw [if_neg h1]
      by_cases h2 : isSg X q.1 61 = true
      · rw [if_pos h2]
        have hi1 := tN_s g2 (sg_k h2)
        have hP1 := mP_at b1 hi1
        have hS1 : mSt (am_up μ2 133 7 (nI (q.1 + 1))) q.2 := mSt_7 (by decide) b2
        obtain ⟨y2, hy2, hq2⟩ := hC (q.1 + 1) q.2 _ ν hP1 hS1 (by omega)
        refine m_teB d n dp q.1 hX b1 (bf h1) h2 _ ?_
        cases hr2 : P (q.1 + 1) q.2 with
        | inl c =>
          rw [hr2] at hq2
          obtain ⟨μ3, i2, L2, rfl, f1, f2, f3, f4, f5, f6, f7, f8⟩ := hq2
          refine am_q_call rfl rfl hy2 rfl ?_
          refine m_teMB d n dp L2 f6 (by omega) _ ?_
          exact ⟨_, i2, L2 + 1, rfl, (am_up_ne (by omega)).trans ((am_up_ne (by omega)).trans f1), f2, f3, (am_up_ne (by omega)).trans ((am_up_ne (by omega)).trans f4), f5, am_up_eq, by omega, frMl_tr b3 (frMl_tr (frMl_tr (frMl_up (by omega)) f8) frMl_em)⟩
        | inr r =>
          rw [hr2] at hq2
          obtain ⟨μ3, rfl, f1, f2, f3⟩ := hq2
          obtain ⟨u1, u2, u3⟩ := hG (q.1 + 1) q.2 r hi1 hr2
          refine am_q_call rfl rfl hy2 rfl ?_
          refine m_teMB d n dp r.2.length f2.1 (by omega) _ ?_
          exact ⟨_, rfl, mP_e f1, mSt_e (x := -9) rfl f2, frMl_tr b3 (frMl_tr (frMl_tr (frMl_up (by omega)) f3) frMl_em)⟩
      · rw [if_neg h2]
        exact m_teE d n dp q.1 hX b1 (bf h1) (bf h2) _ ⟨μ2, rfl, b1, b2, b3⟩)