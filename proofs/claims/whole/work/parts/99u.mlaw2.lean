theorem m_isST (d c : Nat) (hcc : c < 128) (n i : Nat) {X : tTp} {μ : am_M2} (ν : am_N2) (hX : tpOk X) (hP : mP μ ν X i) (h : isSg X i c = true) : am_run (d + 1) 210 [.ref 133, .int (nI c)] (am_hp n μ ν) = some (some (.int (sB true)), am_hp n μ ν) := by
  have e := m_isSign0 d c hcc n i ν hX hP
  rw [h] at e
  exact e
theorem m_isSF (d c : Nat) (hcc : c < 128) (n i : Nat) {X : tTp} {μ : am_M2} (ν : am_N2) (hX : tpOk X) (hP : mP μ ν X i) (h : isSg X i c = false) : am_run (d + 1) 210 [.ref 133, .int (nI c)] (am_hp n μ ν) = some (some (.int (sB false)), am_hp n μ ν) := by
  have e := m_isSign0 d c hcc n i ν hX hP
  rw [h] at e
  exact e
theorem m_isWT (d c : Nat) (hcc : c < 22) (n i : Nat) {X : tTp} {μ : am_M2} (ν : am_N2) (hX : tpOk X) (hP : mP μ ν X i) (h : isWd X i c = true) : am_run (d + 1) 191 [.ref 133, .int (nI c)] (am_hp n μ ν) = some (some (.int (sB true)), am_hp n μ ν) := by
  have e := m_isWord0 d c hcc n i ν hX hP
  rw [h] at e
  exact e
theorem m_isWF (d c : Nat) (hcc : c < 22) (n i : Nat) {X : tTp} {μ : am_M2} (ν : am_N2) (hX : tpOk X) (hP : mP μ ν X i) (h : isWd X i c = false) : am_run (d + 1) 191 [.ref 133, .int (nI c)] (am_hp n μ ν) = some (some (.int (sB false)), am_hp n μ ν) := by
  have e := m_isWord0 d c hcc n i ν hX hP
  rw [h] at e
  exact e
theorem sg_u {X : tTp} {i a b : Nat} (h : isSg X i a = true) (hne : a ≠ b) : isSg X i b = false := by
  unfold isSg at h ⊢
  rw [Bool.and_eq_true] at h
  rw [decide_eq_false (fun z => hne ((of_decide_eq_true h.2).symm.trans z)), Bool.and_false]
theorem wd_u {X : tTp} {i a b : Nat} (ha : a < 22) (hb : b < 22) (h : isWd X i a = true) (hne : a ≠ b) : isWd X i b = false := by
  cases e : isWd X i b with
  | false => rfl
  | true => exact absurd (isWd_u ha hb h e) hne
theorem bf {b : Bool} (h : ¬ b = true) : b = false := by cases b with | false => rfl | true => exact absurd rfl h
theorem m_products (d n dp : Nat) {X : tTp} (hX : tpOk X) (P : Nat → List Int → Nat ⊕ pSt) (hG : pGd X P) (hC : mlC X n (d + 3) P 209 [.int (nI dp)]) : mlC X n (d + 4) (lev P (jnt X 3) 1000) 208 [.int (nI dp)] := fun i p μ ν hP hS hl => am_run_wE (k := 208) (d := d + 3) (vs := [.ref 133, .int (nI dp)]) rfl rfl (Nat.le_of_ble_eq_true rfl) [some (.ref 133), some (.int (nI dp))] rfl (by
  have hN := tN_1k hX
  obtain ⟨y, hy, hq⟩ := hC i p μ ν hP hS hl
  unfold lev
  refine am_q_aload_n rfl rfl ?_
  refine am_q_iload_n rfl rfl ?_
  cases hr : P i p with
  | inl c =>
    rw [hr] at hq
    obtain ⟨μ2, i2, L2, rfl, b1, b2, b3, b4, b5, b6, b7, b8⟩ := hq
    refine am_q_call rfl rfl hy rfl ?_
    exact m_prF d dp i2 n c ν b2 (by omega) b1 b4 _ ⟨μ2, i2, L2, rfl, b1, b2, b3, b4, b5, b6, b7, b8⟩
  | inr q =>
    rw [hr] at hq
    obtain ⟨μ2, rfl, b1, b2, b3⟩ := hq
    obtain ⟨g1, g2, g3⟩ := hG i p q hP.2.2.2.2 hr
    refine am_q_call rfl rfl hy rfl ?_
    exact am_w_mono (fun r hr => mlQ_tr b3 (by omega) hr) (m_prL d n dp hX P hG hC 1000 q.1 q.2 μ2 ν b1 b2 (by omega) (by omega)))
theorem m_sumsF (d dp i : Nat) (n c : Nat) {μ : am_M2} (ν : am_N2) (hc : 0 < c) (hc2 : c < 2 ^ 30) (hF : μ 133 8 = nI c) (hA : μ 133 7 = nI i) (o2 : Option Value) (Q : am_R → Prop) (K : Q (none, am_hp n μ ν)) : am_w (d + 3) (Option.none : Option FieldType) am_g207 5 [some (.ref 133), some (.int (nI dp)), o2] [] (am_hp n μ ν) (Q) := by
  refine am_q_aload_n rfl rfl ?_
  refine am_q_bipush (v := nI 43) rfl rfl ?_
  refine am_q_call rfl rfl (m_isSign1 _ 43 n c ν hc hc2 hF) rfl ?_
  refine am_q_if_neB rfl (fun c_11 => by simp at c_11) (fun c_11 => ?_)
  refine am_q_aload_n rfl rfl ?_
  refine am_q_bipush (v := nI 45) rfl rfl ?_
  refine am_q_call rfl rfl (m_isSign1 _ 45 n c ν hc hc2 hF) rfl ?_
  refine am_q_if_eqB rfl (fun c_20 => ?_) (fun c_20 => by simp at c_20)
  refine am_q_return rfl rfl ?_
  exact K

theorem m_sumsE (d n dp i : Nat) {X : tTp} {μ : am_M2} {ν : am_N2} (hX : tpOk X) (hP : mP μ ν X i) (h1 : isSg X i 43 = false) (h2 : isSg X i 45 = false) (o2 : Option Value) (Q : am_R → Prop) (K : Q (none, am_hp n μ ν)) : am_w (d + 3) (Option.none : Option FieldType) am_g207 5 [some (.ref 133), some (.int (nI dp)), o2] [] (am_hp n μ ν) (Q) := by
  refine am_q_aload_n rfl rfl ?_
  refine am_q_bipush (v := nI 43) rfl rfl ?_
  refine am_q_call rfl rfl (m_isSF _ 43 (by decide) n i ν hX hP h1) rfl ?_
  refine am_q_if_neB rfl (fun c_11 => by simp at c_11) (fun c_11 => ?_)
  refine am_q_aload_n rfl rfl ?_
  refine am_q_bipush (v := nI 45) rfl rfl ?_
  refine am_q_call rfl rfl (m_isSF _ 45 (by decide) n i ν hX hP h2) rfl ?_
  refine am_q_if_eqB rfl (fun c_20 => ?_) (fun c_20 => by simp at c_20)
  refine am_q_return rfl rfl ?_
  exact K

theorem m_sumsA (d n dp i : Nat) {X : tTp} {μ : am_M2} {ν : am_N2} (hX : tpOk X) (hP : mP μ ν X i) (h1 : isSg X i 43 = true) (o2 : Option Value) (Q : am_R → Prop) (K : am_w (d + 3) (Option.none : Option FieldType) am_g207 42 [some (.ref 133), some (.int (nI dp)), some (.int (sB true))] [.int (nI dp), .ref 133] (am_hp n (am_up μ 133 7 (nI (i + 1))) ν) Q) : am_w (d + 3) (Option.none : Option FieldType) am_g207 5 [some (.ref 133), some (.int (nI dp)), o2] [] (am_hp n μ ν) (Q) := by
  refine am_q_aload_n rfl rfl ?_
  refine am_q_bipush (v := nI 43) rfl rfl ?_
  refine am_q_call rfl rfl (m_isST _ 43 (by decide) n i ν hX hP h1) rfl ?_
  refine am_q_if_neB rfl (fun c_11 => ?_) (fun c_11 => by simp at c_11)
  refine am_q_aload_n rfl rfl ?_
  refine am_q_bipush (v := nI 43) rfl rfl ?_
  refine am_q_call rfl rfl (m_isST _ 43 (by decide) n i ν hX hP h1) rfl ?_
  refine am_q_istore_n [some _, some _, some _] rfl (Nat.le_of_ble_eq_true rfl) rfl ?_
  refine am_q_aload_n rfl rfl ?_
  refine am_q_dupr rfl ?_
  refine am_q_gi rfl rfl rfl hP.2.2.1 ?_
  refine am_q_iconst (v := nI 1) rfl rfl ?_
  refine am_q_iadd rfl (nI_add _ _) ?_
  refine am_q_pi rfl rfl rfl (Or.inl rfl) ?_
  refine am_q_aload_n rfl rfl ?_
  refine am_q_iload_n rfl rfl ?_
  exact K

theorem m_sumsMA (d n dp L : Nat) {μ : am_M2} {ν : am_N2} (hL : μ 133 12 = nI L) (hL2 : L < 1100) (Q : am_R → Prop) (K : am_w (d + 3) (Option.none : Option FieldType) am_g207 5 [some (.ref 133), some (.int (nI dp)), some (.int (sB true))] [] (am_hp n (am_up (am_up μ 140 (1100 + L) (nI (4 + 16 * 0))) 133 12 (nI (L + 1))) ν) Q) : am_w (d + 3) (Option.none : Option FieldType) am_g207 45 [some (.ref 133), some (.int (nI dp)), some (.int (sB (true)))] [] (am_hp n μ ν) (Q) := by
  refine am_q_aload_n rfl rfl ?_
  refine am_q_iload_n rfl rfl ?_
  refine am_q_if_eqB rfl (fun c_47 => by simp at c_47) (fun c_47 => ?_)
  refine am_q_iconst (v := nI 4) rfl rfl ?_
  refine am_q_goto rfl ?_
  refine am_q_iconst (v := nI 0) rfl rfl ?_
  refine am_q_call rfl rfl (m_emit _ n 4 0 L ν hL hL2) rfl ?_
  refine am_q_goto rfl ?_
  exact K

theorem m_sumsB (d n dp i : Nat) {X : tTp} {μ : am_M2} {ν : am_N2} (hX : tpOk X) (hP : mP μ ν X i) (h1 : isSg X i 43 = false) (h2 : isSg X i 45 = true) (o2 : Option Value) (Q : am_R → Prop) (K : am_w (d + 3) (Option.none : Option FieldType) am_g207 42 [some (.ref 133), some (.int (nI dp)), some (.int (sB false))] [.int (nI dp), .ref 133] (am_hp n (am_up μ 133 7 (nI (i + 1))) ν) Q) : am_w (d + 3) (Option.none : Option FieldType) am_g207 5 [some (.ref 133), some (.int (nI dp)), o2] [] (am_hp n μ ν) (Q) := by
  refine am_q_aload_n rfl rfl ?_
  refine am_q_bipush (v := nI 43) rfl rfl ?_
  refine am_q_call rfl rfl (m_isSF _ 43 (by decide) n i ν hX hP h1) rfl ?_
  refine am_q_if_neB rfl (fun c_11 => by simp at c_11) (fun c_11 => ?_)
  refine am_q_aload_n rfl rfl ?_
  refine am_q_bipush (v := nI 45) rfl rfl ?_
  refine am_q_call rfl rfl (m_isST _ 45 (by decide) n i ν hX hP h2) rfl ?_
  refine am_q_if_eqB rfl (fun c_20 => by simp at c_20) (fun c_20 => ?_)
  refine am_q_aload_n rfl rfl ?_
  refine am_q_bipush (v := nI 43) rfl rfl ?_
  refine am_q_call rfl rfl (m_isSF _ 43 (by decide) n i ν hX hP h1) rfl ?_
  refine am_q_istore_n [some _, some _, some _] rfl (Nat.le_of_ble_eq_true rfl) rfl ?_
  refine am_q_aload_n rfl rfl ?_
  refine am_q_dupr rfl ?_
  refine am_q_gi rfl rfl rfl hP.2.2.1 ?_
  refine am_q_iconst (v := nI 1) rfl rfl ?_
  refine am_q_iadd rfl (nI_add _ _) ?_
  refine am_q_pi rfl rfl rfl (Or.inl rfl) ?_
  refine am_q_aload_n rfl rfl ?_
  refine am_q_iload_n rfl rfl ?_
  exact K

theorem m_sumsMB (d n dp L : Nat) {μ : am_M2} {ν : am_N2} (hL : μ 133 12 = nI L) (hL2 : L < 1100) (Q : am_R → Prop) (K : am_w (d + 3) (Option.none : Option FieldType) am_g207 5 [some (.ref 133), some (.int (nI dp)), some (.int (sB false))] [] (am_hp n (am_up (am_up μ 140 (1100 + L) (nI (5 + 16 * 0))) 133 12 (nI (L + 1))) ν) Q) : am_w (d + 3) (Option.none : Option FieldType) am_g207 45 [some (.ref 133), some (.int (nI dp)), some (.int (sB (false)))] [] (am_hp n μ ν) (Q) := by
  refine am_q_aload_n rfl rfl ?_
  refine am_q_iload_n rfl rfl ?_
  refine am_q_if_eqB rfl (fun c_47 => ?_) (fun c_47 => by simp at c_47)
  refine am_q_iconst (v := nI 5) rfl rfl ?_
  refine am_q_iconst (v := nI 0) rfl rfl ?_
  refine am_q_call rfl rfl (m_emit _ n 5 0 L ν hL hL2) rfl ?_
  refine am_q_goto rfl ?_
  exact K

theorem m_sumsL (d n dp : Nat) {X : tTp} (hX : tpOk X) (P : Nat → List Int → Nat ⊕ pSt) (hG : pGd X P) (hC : mlC X n (d + 3) P 208 [.int (nI dp)]) : ∀ (m i : Nat) (p : List Int) (μ : am_M2) (ν : am_N2) (o2 : Option Value), mP μ ν X i → mSt μ p → p.length ≤ i → tN X ≤ i + m → am_w (d + 3) (Option.none : Option FieldType) am_g207 5 [some (.ref 133), some (.int (nI dp)), o2] [] (am_hp n μ ν) (mlQ X n μ ν i p (levL P (jnt X 2) m i p)) := by
  intro m
  induction m with
  | zero =>
    intro i p μ ν o2 hP hS hl hm
    have hi := hP.2.2.2.2
    have hk : kd X i = 0 := by rw [show i = tN X by omega]; exact tN_0 X
    exact m_sumsE d n dp i hX hP (bf (fun z => sg_k z hk)) (bf (fun z => sg_k z hk)) o2 _ ⟨μ, rfl, hP, hS, frMl_rf μ⟩
  | succ m ih =>
    intro i p μ ν o2 hP hS hl hm
    have hN := tN_1k hX
    unfold levL
    rw [jt2]
    by_cases h1 : isSg X i 43 = true
    · rw [if_pos h1]
      have hi1 := tN_s hP.2.2.2.2 (sg_k h1)
      have hP1 := mP_at hP hi1
      have hS1 : mSt (am_up μ 133 7 (nI (i + 1))) p := mSt_7 (by decide) hS
      obtain ⟨y, hy, hq⟩ := hC (i + 1) p _ ν hP1 hS1 (by omega)
      refine m_sumsA d n dp i hX hP h1 o2 _ ?_
      cases hr : P (i + 1) p with
      | inl c =>
        rw [hr] at hq
        obtain ⟨μ2, i2, L2, rfl, b1, b2, b3, b4, b5, b6, b7, b8⟩ := hq
        refine am_q_call rfl rfl hy rfl ?_
        refine m_sumsMA d n dp L2 b6 (by omega) _ ?_
        refine m_sumsF d dp i2 n c ν b2 (by omega) ((am_up_ne (by omega)).trans ((am_up_ne (by omega)).trans b1)) ((am_up_ne (by omega)).trans ((am_up_ne (by omega)).trans b4)) _ _ ?_
        exact ⟨_, i2, L2 + 1, rfl, (am_up_ne (by omega)).trans ((am_up_ne (by omega)).trans b1), b2, b3, (am_up_ne (by omega)).trans ((am_up_ne (by omega)).trans b4), b5, am_up_eq, by omega, frMl_tr (frMl_tr (frMl_up (by omega)) b8) frMl_em⟩
      | inr q =>
        rw [hr] at hq
        obtain ⟨μ2, rfl, b1, b2, b3⟩ := hq
        obtain ⟨g1, g2, g3⟩ := hG (i + 1) p q hi1 hr
        refine am_q_call rfl rfl hy rfl ?_
        refine m_sumsMA d n dp q.2.length b2.1 (by omega) _ ?_
        have hl2 : (q.2 ++ [(-10 : Int)]).length = q.2.length + 1 := by rw [List.length_append]; rfl
        exact am_w_mono (fun r hr => mlQ_tr (frMl_tr (frMl_tr (frMl_up (by omega)) b3) frMl_em) (by omega) hr) (ih q.1 (q.2 ++ [-10]) _ ν _ (mP_e b1) (mSt_e rfl b2) (by omega) (by omega))
    · rw [if_neg h1]
      by_cases h2 : isSg X i 45 = true
      · rw [if_pos h2]
        have hi1 := tN_s hP.2.2.2.2 (sg_k h2)
        have hP1 := mP_at hP hi1
        have hS1 : mSt (am_up μ 133 7 (nI (i + 1))) p := mSt_7 (by decide) hS
        obtain ⟨y, hy, hq⟩ := hC (i + 1) p _ ν hP1 hS1 (by omega)
        refine m_sumsB d n dp i hX hP (bf h1) h2 o2 _ ?_
        cases hr : P (i + 1) p with
        | inl c =>
          rw [hr] at hq
          obtain ⟨μ2, i2, L2, rfl, b1, b2, b3, b4, b5, b6, b7, b8⟩ := hq
          refine am_q_call rfl rfl hy rfl ?_
          refine m_sumsMB d n dp L2 b6 (by omega) _ ?_
          refine m_sumsF d dp i2 n c ν b2 (by omega) ((am_up_ne (by omega)).trans ((am_up_ne (by omega)).trans b1)) ((am_up_ne (by omega)).trans ((am_up_ne (by omega)).trans b4)) _ _ ?_
          exact ⟨_, i2, L2 + 1, rfl, (am_up_ne (by omega)).trans ((am_up_ne (by omega)).trans b1), b2, b3, (am_up_ne (by omega)).trans ((am_up_ne (by omega)).trans b4), b5, am_up_eq, by omega, frMl_tr (frMl_tr (frMl_up (by omega)) b8) frMl_em⟩
        | inr q =>
          rw [hr] at hq
          obtain ⟨μ2, rfl, b1, b2, b3⟩ := hq
          obtain ⟨g1, g2, g3⟩ := hG (i + 1) p q hi1 hr
          refine am_q_call rfl rfl hy rfl ?_
          refine m_sumsMB d n dp q.2.length b2.1 (by omega) _ ?_
          have hl2 : (q.2 ++ [(-11 : Int)]).length = q.2.length + 1 := by rw [List.length_append]; rfl
          exact am_w_mono (fun r hr => mlQ_tr (frMl_tr (frMl_tr (frMl_up (by omega)) b3) frMl_em) (by omega) hr) (ih q.1 (q.2 ++ [-11]) _ ν _ (mP_e b1) (mSt_e rfl b2) (by omega) (by omega))
      · rw [if_neg h2]
        exact m_sumsE d n dp i hX hP (bf h1) (bf h2) o2 _ ⟨μ, rfl, hP, hS, frMl_rf μ⟩
theorem m_sums (d n dp : Nat) {X : tTp} (hX : tpOk X) (P : Nat → List Int → Nat ⊕ pSt) (hG : pGd X P) (hC : mlC X n (d + 3) P 208 [.int (nI dp)]) : mlC X n (d + 4) (lev P (jnt X 2) 1000) 207 [.int (nI dp)] := fun i p μ ν hP hS hl => am_run_wE (k := 207) (d := d + 3) (vs := [.ref 133, .int (nI dp)]) rfl rfl (Nat.le_of_ble_eq_true rfl) [some (.ref 133), some (.int (nI dp)), none] rfl (by
  have hN := tN_1k hX
  obtain ⟨y, hy, hq⟩ := hC i p μ ν hP hS hl
  unfold lev
  refine am_q_aload_n rfl rfl ?_
  refine am_q_iload_n rfl rfl ?_
  cases hr : P i p with
  | inl c =>
    rw [hr] at hq
    obtain ⟨μ2, i2, L2, rfl, b1, b2, b3, b4, b5, b6, b7, b8⟩ := hq
    refine am_q_call rfl rfl hy rfl ?_
    exact m_sumsF d dp i2 n c ν b2 (by omega) b1 b4 none _ ⟨μ2, i2, L2, rfl, b1, b2, b3, b4, b5, b6, b7, b8⟩
  | inr q =>
    rw [hr] at hq
    obtain ⟨μ2, rfl, b1, b2, b3⟩ := hq
    obtain ⟨g1, g2, g3⟩ := hG i p q hP.2.2.2.2 hr
    refine am_q_call rfl rfl hy rfl ?_
    exact am_w_mono (fun r hr => mlQ_tr b3 (by omega) hr) (m_sumsL d n dp hX P hG hC 1000 q.1 q.2 μ2 ν none b1 b2 (by omega) (by omega)))
theorem m_wholeF (d dp i : Nat) (n c : Nat) {μ : am_M2} (ν : am_N2) (hc : 0 < c) (hc2 : c < 2 ^ 30) (hF : μ 133 8 = nI c) (hA : μ 133 7 = nI i) (o2 : Option Value) (Q : am_R → Prop) (K : Q (none, am_hp n μ ν)) : am_w (d + 3) (Option.none : Option FieldType) am_g205 5 [some (.ref 133), some (.int (nI dp)), o2] [] (am_hp n μ ν) (Q) := by
  refine am_q_aload_n rfl rfl ?_
  refine am_q_bipush (v := nI 16) rfl rfl ?_
  refine am_q_call rfl rfl (m_isWord1 _ 16 n c ν hc hc2 hF) rfl ?_
  refine am_q_if_neB rfl (fun c_11 => by simp at c_11) (fun c_11 => ?_)
  refine am_q_aload_n rfl rfl ?_
  refine am_q_bipush (v := nI 17) rfl rfl ?_
  refine am_q_call rfl rfl (m_isWord1 _ 17 n c ν hc hc2 hF) rfl ?_
  refine am_q_if_eqB rfl (fun c_20 => ?_) (fun c_20 => by simp at c_20)
  refine am_q_return rfl rfl ?_
  exact K

theorem m_wholeE (d n dp i : Nat) {X : tTp} {μ : am_M2} {ν : am_N2} (hX : tpOk X) (hP : mP μ ν X i) (h1 : isWd X i 16 = false) (h2 : isWd X i 17 = false) (o2 : Option Value) (Q : am_R → Prop) (K : Q (none, am_hp n μ ν)) : am_w (d + 3) (Option.none : Option FieldType) am_g205 5 [some (.ref 133), some (.int (nI dp)), o2] [] (am_hp n μ ν) (Q) := by
  refine am_q_aload_n rfl rfl ?_
  refine am_q_bipush (v := nI 16) rfl rfl ?_
  refine am_q_call rfl rfl (m_isWF _ 16 (by decide) n i ν hX hP h1) rfl ?_
  refine am_q_if_neB rfl (fun c_11 => by simp at c_11) (fun c_11 => ?_)
  refine am_q_aload_n rfl rfl ?_
  refine am_q_bipush (v := nI 17) rfl rfl ?_
  refine am_q_call rfl rfl (m_isWF _ 17 (by decide) n i ν hX hP h2) rfl ?_
  refine am_q_if_eqB rfl (fun c_20 => ?_) (fun c_20 => by simp at c_20)
  refine am_q_return rfl rfl ?_
  exact K

theorem m_wholeA (d n dp i : Nat) {X : tTp} {μ : am_M2} {ν : am_N2} (hX : tpOk X) (hP : mP μ ν X i) (h1 : isWd X i 16 = true) (o2 : Option Value) (Q : am_R → Prop) (K : am_w (d + 3) (Option.none : Option FieldType) am_g205 42 [some (.ref 133), some (.int (nI dp)), some (.int (sB true))] [.int (nI dp), .ref 133] (am_hp n (am_up μ 133 7 (nI (i + 1))) ν) Q) : am_w (d + 3) (Option.none : Option FieldType) am_g205 5 [some (.ref 133), some (.int (nI dp)), o2] [] (am_hp n μ ν) (Q) := by
  refine am_q_aload_n rfl rfl ?_
  refine am_q_bipush (v := nI 16) rfl rfl ?_
  refine am_q_call rfl rfl (m_isWT _ 16 (by decide) n i ν hX hP h1) rfl ?_
  refine am_q_if_neB rfl (fun c_11 => ?_) (fun c_11 => by simp at c_11)
  refine am_q_aload_n rfl rfl ?_
  refine am_q_bipush (v := nI 16) rfl rfl ?_
  refine am_q_call rfl rfl (m_isWT _ 16 (by decide) n i ν hX hP h1) rfl ?_
  refine am_q_istore_n [some _, some _, some _] rfl (Nat.le_of_ble_eq_true rfl) rfl ?_
  refine am_q_aload_n rfl rfl ?_
  refine am_q_dupr rfl ?_
  refine am_q_gi rfl rfl rfl hP.2.2.1 ?_
  refine am_q_iconst (v := nI 1) rfl rfl ?_
  refine am_q_iadd rfl (nI_add _ _) ?_
  refine am_q_pi rfl rfl rfl (Or.inl rfl) ?_
  refine am_q_aload_n rfl rfl ?_
  refine am_q_iload_n rfl rfl ?_
  exact K

theorem m_wholeMA (d n dp L : Nat) {μ : am_M2} {ν : am_N2} (hL : μ 133 12 = nI L) (hL2 : L < 1100) (Q : am_R → Prop) (K : am_w (d + 3) (Option.none : Option FieldType) am_g205 5 [some (.ref 133), some (.int (nI dp)), some (.int (sB true))] [] (am_hp n (am_up (am_up μ 140 (1100 + L) (nI (9 + 16 * 0))) 133 12 (nI (L + 1))) ν) Q) : am_w (d + 3) (Option.none : Option FieldType) am_g205 45 [some (.ref 133), some (.int (nI dp)), some (.int (sB (true)))] [] (am_hp n μ ν) (Q) := by
  refine am_q_aload_n rfl rfl ?_
  refine am_q_iload_n rfl rfl ?_
  refine am_q_if_eqB rfl (fun c_47 => by simp at c_47) (fun c_47 => ?_)
  refine am_q_bipush (v := nI 9) rfl rfl ?_
  refine am_q_goto rfl ?_
  refine am_q_iconst (v := nI 0) rfl rfl ?_
  refine am_q_call rfl rfl (m_emit _ n 9 0 L ν hL hL2) rfl ?_
  refine am_q_goto rfl ?_
  exact K

theorem m_wholeB (d n dp i : Nat) {X : tTp} {μ : am_M2} {ν : am_N2} (hX : tpOk X) (hP : mP μ ν X i) (h1 : isWd X i 16 = false) (h2 : isWd X i 17 = true) (o2 : Option Value) (Q : am_R → Prop) (K : am_w (d + 3) (Option.none : Option FieldType) am_g205 42 [some (.ref 133), some (.int (nI dp)), some (.int (sB false))] [.int (nI dp), .ref 133] (am_hp n (am_up μ 133 7 (nI (i + 1))) ν) Q) : am_w (d + 3) (Option.none : Option FieldType) am_g205 5 [some (.ref 133), some (.int (nI dp)), o2] [] (am_hp n μ ν) (Q) := by
  refine am_q_aload_n rfl rfl ?_
  refine am_q_bipush (v := nI 16) rfl rfl ?_
  refine am_q_call rfl rfl (m_isWF _ 16 (by decide) n i ν hX hP h1) rfl ?_
  refine am_q_if_neB rfl (fun c_11 => by simp at c_11) (fun c_11 => ?_)
  refine am_q_aload_n rfl rfl ?_
  refine am_q_bipush (v := nI 17) rfl rfl ?_
  refine am_q_call rfl rfl (m_isWT _ 17 (by decide) n i ν hX hP h2) rfl ?_
  refine am_q_if_eqB rfl (fun c_20 => by simp at c_20) (fun c_20 => ?_)
  refine am_q_aload_n rfl rfl ?_
  refine am_q_bipush (v := nI 16) rfl rfl ?_
  refine am_q_call rfl rfl (m_isWF _ 16 (by decide) n i ν hX hP h1) rfl ?_
  refine am_q_istore_n [some _, some _, some _] rfl (Nat.le_of_ble_eq_true rfl) rfl ?_
  refine am_q_aload_n rfl rfl ?_
  refine am_q_dupr rfl ?_
  refine am_q_gi rfl rfl rfl hP.2.2.1 ?_
  refine am_q_iconst (v := nI 1) rfl rfl ?_
  refine am_q_iadd rfl (nI_add _ _) ?_
  refine am_q_pi rfl rfl rfl (Or.inl rfl) ?_
  refine am_q_aload_n rfl rfl ?_
  refine am_q_iload_n rfl rfl ?_
  exact K

theorem m_wholeMB (d n dp L : Nat) {μ : am_M2} {ν : am_N2} (hL : μ 133 12 = nI L) (hL2 : L < 1100) (Q : am_R → Prop) (K : am_w (d + 3) (Option.none : Option FieldType) am_g205 5 [some (.ref 133), some (.int (nI dp)), some (.int (sB false))] [] (am_hp n (am_up (am_up μ 140 (1100 + L) (nI (10 + 16 * 0))) 133 12 (nI (L + 1))) ν) Q) : am_w (d + 3) (Option.none : Option FieldType) am_g205 45 [some (.ref 133), some (.int (nI dp)), some (.int (sB (false)))] [] (am_hp n μ ν) (Q) := by
  refine am_q_aload_n rfl rfl ?_
  refine am_q_iload_n rfl rfl ?_
  refine am_q_if_eqB rfl (fun c_47 => ?_) (fun c_47 => by simp at c_47)
  refine am_q_bipush (v := nI 10) rfl rfl ?_
  refine am_q_iconst (v := nI 0) rfl rfl ?_
  refine am_q_call rfl rfl (m_emit _ n 10 0 L ν hL hL2) rfl ?_
  refine am_q_goto rfl ?_
  exact K

theorem m_wholeL (d n dp : Nat) {X : tTp} (hX : tpOk X) (P : Nat → List Int → Nat ⊕ pSt) (hG : pGd X P) (hC : mlC X n (d + 3) P 206 [.int (nI dp)]) : ∀ (m i : Nat) (p : List Int) (μ : am_M2) (ν : am_N2) (o2 : Option Value), mP μ ν X i → mSt μ p → p.length ≤ i → tN X ≤ i + m → am_w (d + 3) (Option.none : Option FieldType) am_g205 5 [some (.ref 133), some (.int (nI dp)), o2] [] (am_hp n μ ν) (mlQ X n μ ν i p (levL P (jnt X 0) m i p)) := by
  intro m
  induction m with
  | zero =>
    intro i p μ ν o2 hP hS hl hm
    have hi := hP.2.2.2.2
    have hk : kd X i = 0 := by rw [show i = tN X by omega]; exact tN_0 X
    exact m_wholeE d n dp i hX hP (bf (fun z => wd_k z hk)) (bf (fun z => wd_k z hk)) o2 _ ⟨μ, rfl, hP, hS, frMl_rf μ⟩
  | succ m ih =>
    intro i p μ ν o2 hP hS hl hm
    have hN := tN_1k hX
    unfold levL
    rw [jt0]
    by_cases h1 : isWd X i 16 = true
    · rw [if_pos h1]
      have hi1 := tN_s hP.2.2.2.2 (wd_k h1)
      have hP1 := mP_at hP hi1
      have hS1 : mSt (am_up μ 133 7 (nI (i + 1))) p := mSt_7 (by decide) hS
      obtain ⟨y, hy, hq⟩ := hC (i + 1) p _ ν hP1 hS1 (by omega)
      refine m_wholeA d n dp i hX hP h1 o2 _ ?_
      cases hr : P (i + 1) p with
      | inl c =>
        rw [hr] at hq
        obtain ⟨μ2, i2, L2, rfl, b1, b2, b3, b4, b5, b6, b7, b8⟩ := hq
        refine am_q_call rfl rfl hy rfl ?_
        refine m_wholeMA d n dp L2 b6 (by omega) _ ?_
        refine m_wholeF d dp i2 n c ν b2 (by omega) ((am_up_ne (by omega)).trans ((am_up_ne (by omega)).trans b1)) ((am_up_ne (by omega)).trans ((am_up_ne (by omega)).trans b4)) _ _ ?_
        exact ⟨_, i2, L2 + 1, rfl, (am_up_ne (by omega)).trans ((am_up_ne (by omega)).trans b1), b2, b3, (am_up_ne (by omega)).trans ((am_up_ne (by omega)).trans b4), b5, am_up_eq, by omega, frMl_tr (frMl_tr (frMl_up (by omega)) b8) frMl_em⟩
      | inr q =>
        rw [hr] at hq
        obtain ⟨μ2, rfl, b1, b2, b3⟩ := hq
        obtain ⟨g1, g2, g3⟩ := hG (i + 1) p q hi1 hr
        refine am_q_call rfl rfl hy rfl ?_
        refine m_wholeMA d n dp q.2.length b2.1 (by omega) _ ?_
        have hl2 : (q.2 ++ [(-6 : Int)]).length = q.2.length + 1 := by rw [List.length_append]; rfl
        exact am_w_mono (fun r hr => mlQ_tr (frMl_tr (frMl_tr (frMl_up (by omega)) b3) frMl_em) (by omega) hr) (ih q.1 (q.2 ++ [-6]) _ ν _ (mP_e b1) (mSt_e rfl b2) (by omega) (by omega))
    · rw [if_neg h1]
      by_cases h2 : isWd X i 17 = true
      · rw [if_pos h2]
        have hi1 := tN_s hP.2.2.2.2 (wd_k h2)
        have hP1 := mP_at hP hi1
        have hS1 : mSt (am_up μ 133 7 (nI (i + 1))) p := mSt_7 (by decide) hS
        obtain ⟨y, hy, hq⟩ := hC (i + 1) p _ ν hP1 hS1 (by omega)
        refine m_wholeB d n dp i hX hP (bf h1) h2 o2 _ ?_
        cases hr : P (i + 1) p with
        | inl c =>
          rw [hr] at hq
          obtain ⟨μ2, i2, L2, rfl, b1, b2, b3, b4, b5, b6, b7, b8⟩ := hq
          refine am_q_call rfl rfl hy rfl ?_
          refine m_wholeMB d n dp L2 b6 (by omega) _ ?_
          refine m_wholeF d dp i2 n c ν b2 (by omega) ((am_up_ne (by omega)).trans ((am_up_ne (by omega)).trans b1)) ((am_up_ne (by omega)).trans ((am_up_ne (by omega)).trans b4)) _ _ ?_
          exact ⟨_, i2, L2 + 1, rfl, (am_up_ne (by omega)).trans ((am_up_ne (by omega)).trans b1), b2, b3, (am_up_ne (by omega)).trans ((am_up_ne (by omega)).trans b4), b5, am_up_eq, by omega, frMl_tr (frMl_tr (frMl_up (by omega)) b8) frMl_em⟩
        | inr q =>
          rw [hr] at hq
          obtain ⟨μ2, rfl, b1, b2, b3⟩ := hq
          obtain ⟨g1, g2, g3⟩ := hG (i + 1) p q hi1 hr
          refine am_q_call rfl rfl hy rfl ?_
          refine m_wholeMB d n dp q.2.length b2.1 (by omega) _ ?_
          have hl2 : (q.2 ++ [(-7 : Int)]).length = q.2.length + 1 := by rw [List.length_append]; rfl
          exact am_w_mono (fun r hr => mlQ_tr (frMl_tr (frMl_tr (frMl_up (by omega)) b3) frMl_em) (by omega) hr) (ih q.1 (q.2 ++ [-7]) _ ν _ (mP_e b1) (mSt_e rfl b2) (by omega) (by omega))
      · rw [if_neg h2]
        exact m_wholeE d n dp i hX hP (bf h1) (bf h2) o2 _ ⟨μ, rfl, hP, hS, frMl_rf μ⟩
theorem m_whole (d n dp : Nat) {X : tTp} (hX : tpOk X) (P : Nat → List Int → Nat ⊕ pSt) (hG : pGd X P) (hC : mlC X n (d + 3) P 206 [.int (nI dp)]) : mlC X n (d + 4) (lev P (jnt X 0) 1000) 205 [.int (nI dp)] := fun i p μ ν hP hS hl => am_run_wE (k := 205) (d := d + 3) (vs := [.ref 133, .int (nI dp)]) rfl rfl (Nat.le_of_ble_eq_true rfl) [some (.ref 133), some (.int (nI dp)), none] rfl (by
  have hN := tN_1k hX
  obtain ⟨y, hy, hq⟩ := hC i p μ ν hP hS hl
  unfold lev
  refine am_q_aload_n rfl rfl ?_
  refine am_q_iload_n rfl rfl ?_
  cases hr : P i p with
  | inl c =>
    rw [hr] at hq
    obtain ⟨μ2, i2, L2, rfl, b1, b2, b3, b4, b5, b6, b7, b8⟩ := hq
    refine am_q_call rfl rfl hy rfl ?_
    exact m_wholeF d dp i2 n c ν b2 (by omega) b1 b4 none _ ⟨μ2, i2, L2, rfl, b1, b2, b3, b4, b5, b6, b7, b8⟩
  | inr q =>
    rw [hr] at hq
    obtain ⟨μ2, rfl, b1, b2, b3⟩ := hq
    obtain ⟨g1, g2, g3⟩ := hG i p q hP.2.2.2.2 hr
    refine am_q_call rfl rfl hy rfl ?_
    exact am_w_mono (fun r hr => mlQ_tr b3 (by omega) hr) (m_wholeL d n dp hX P hG hC 1000 q.1 q.2 μ2 ν none b1 b2 (by omega) (by omega)))