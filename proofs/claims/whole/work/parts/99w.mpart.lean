def tpC (X : tTp) (i : Nat) : Prop := whF X i 18 4 ≠ none ∨ kd X i = 3 ∨ isSg X i 40 = true ∨ isWd X i 15 = true
theorem wh_ge {X : tTp} {i : Nat} : 0 ≤ oI (whF X i 18 4) ↔ whF X i 18 4 ≠ none := by
  have e := oI_neg (q := whF X i 18 4) (fun j hj => by have := (whF_lt _ _ hj).1; omega)
  constructor
  · intro h z; exact absurd (e.mpr z) (Int32.not_lt.mpr h)
  · intro h; exact Int32.not_lt.mp (fun z => h (e.mp z))
theorem tp_dead {X : tTp} {i : Nat} (hC : tpC X i) (h1 : ¬ 0 ≤ oI (whF X i 18 4)) (h2 : ¬ kd X i = 3) (h3 : isSg X i 40 = false) (h4 : isWd X i 15 = false) : False := by
  rcases hC with a | a | a | a
  · exact h1 (wh_ge.mpr a)
  · exact h2 a
  · rw [h3] at a; cases a
  · rw [h4] at a; cases a
theorem m_tpX (d n dp i : Nat) {X : tTp} {μ : am_M2} {ν : am_N2} (hX : tpOk X) (hP : mP μ ν X i) (hdp : dp ≤ 5) (hC : ¬ tpC X i) (Q : am_R → Prop) (K : Q (none, am_hp n (am_up μ 133 8 (nI (wr X i 1))) ν)) : am_w (d + 3) (Option.none : Option FieldType) am_g209 0 [some (.ref 133), some (.int (nI dp)), none, none] [] (am_hp n μ ν) (Q) := by
  have hN := tN_1k hX
  have hP0 := hP
  obtain ⟨hT, hG, hA, hF, hi⟩ := hP
  obtain ⟨t1, t2, t3, t4, t5⟩ := hT i hi
  have hkc := mS_c (kd_le X i)
  have hk4 := kd_le X i
  have hpl := pl_1k hX i
  obtain ⟨w0, w1⟩ := wr_b hX i (k := 1) (by decide) (by decide)
  refine am_q_aload_n rfl rfl ?_
  refine am_q_gi rfl rfl rfl hF ?_
  refine am_q_zleN rfl (by omega) (fun c_4 => ?_) (fun c_4 => absurd c_4 (by omega))
  refine am_q_aload_n rfl rfl ?_
  refine am_q_gr rfl rfl rfl ?_
  refine am_q_aload_n rfl rfl ?_
  refine am_q_gi rfl rfl rfl hA ?_
  refine am_q_iald rfl rfl (am_ix_nI (show i < 1002 by omega) (by decide)) t1 ?_
  refine am_q_iconst (v := nI 2) rfl rfl ?_
  refine am_q_ineN rfl (by omega) (by omega) (fun c_18 => ?_) (fun c_18 => absurd (Or.inr (Or.inl (hkc.2.2.1.mp c_18))) hC)
  refine am_q_iconst (v := nI 0) rfl rfl ?_
  refine am_q_istore_n [some _, some _, some _, none] rfl (Nat.le_of_ble_eq_true rfl) rfl ?_
  refine am_q_aload_n rfl rfl ?_
  refine am_q_bipush (v := nI 18) rfl rfl ?_
  refine am_q_iconst (v := nI 4) rfl rfl ?_
  refine am_q_call rfl rfl (m_wordHere0 _ 18 4 (by decide) n i ν hX hP0) rfl ?_
  refine am_q_istore_n [some _, some _, some _, some _] rfl (Nat.le_of_ble_eq_true rfl) rfl ?_
  refine am_q_iload_n rfl rfl ?_
  refine am_q_if_ge rfl (fun c_36 => absurd (Or.inl (wh_ge.mp c_36)) hC) (fun c_36 => ?_)
  refine am_q_iload_n rfl rfl ?_
  refine am_q_zneN rfl (by omega) (fun c_40 => absurd c_40 (by omega)) (fun c_40 => ?_)
  refine am_q_aload_n rfl rfl ?_
  refine am_q_bipush (v := nI 40) rfl rfl ?_
  refine am_q_call rfl rfl (m_isSign0 _ 40 (by decide) n i ν hX hP0) rfl ?_
  refine am_q_if_neB rfl (fun c_49 => absurd (Or.inr (Or.inr (Or.inl c_49))) hC) (fun c_49 => ?_)
  refine am_q_aload_n rfl rfl ?_
  refine am_q_bipush (v := nI 15) rfl rfl ?_
  refine am_q_call rfl rfl (m_isWord0 _ 15 (by decide) n i ν hX hP0) rfl ?_
  refine am_q_if_neB rfl (fun c_58 => absurd (Or.inr (Or.inr (Or.inr c_58))) hC) (fun c_58 => ?_)
  refine am_q_aload_n rfl rfl ?_
  refine am_q_iconst (v := nI 1) rfl rfl ?_
  refine am_q_call rfl rfl (m_wrong0 _ 1 n i ν hX hP0) rfl ?_
  refine am_q_goto rfl ?_
  refine am_q_aload_n rfl rfl ?_
  refine am_q_gi rfl rfl rfl am_up_eq ?_
  refine am_q_zleN rfl (by omega) (fun c_83 => absurd c_83 (by omega)) (fun c_83 => ?_)
  refine am_q_return rfl rfl ?_
  exact K

theorem m_tp5 (d n dp i : Nat) {X : tTp} {μ : am_M2} {ν : am_N2} (hX : tpOk X) (hP : mP μ ν X i) (hdp : dp ≤ 5) (hC : tpC X i) (h5 : dp = 5) (Q : am_R → Prop) (K : Q (none, am_hp n (am_up μ 133 8 (nI (wr X i 5))) ν)) : am_w (d + 3) (Option.none : Option FieldType) am_g209 0 [some (.ref 133), some (.int (nI dp)), none, none] [] (am_hp n μ ν) (Q) := by
  have hN := tN_1k hX
  have hP0 := hP
  obtain ⟨hT, hG, hA, hF, hi⟩ := hP
  obtain ⟨t1, t2, t3, t4, t5⟩ := hT i hi
  have hkc := mS_c (kd_le X i)
  have hk4 := kd_le X i
  have hpl := pl_1k hX i
  obtain ⟨w0, w1⟩ := wr_b hX i (k := 5) (by decide) (by decide)
  refine am_q_aload_n rfl rfl ?_
  refine am_q_gi rfl rfl rfl hF ?_
  refine am_q_zleN rfl (by omega) (fun c_4 => ?_) (fun c_4 => absurd c_4 (by omega))
  refine am_q_aload_n rfl rfl ?_
  refine am_q_gr rfl rfl rfl ?_
  refine am_q_aload_n rfl rfl ?_
  refine am_q_gi rfl rfl rfl hA ?_
  refine am_q_iald rfl rfl (am_ix_nI (show i < 1002 by omega) (by decide)) t1 ?_
  refine am_q_iconst (v := nI 2) rfl rfl ?_
  refine am_q_ineN rfl (by omega) (by omega) (fun c_18 => ?_) (fun c_18 => ?_)
  · refine am_q_iconst (v := nI 0) rfl rfl ?_
    refine am_q_istore_n [some _, some _, some _, none] rfl (Nat.le_of_ble_eq_true rfl) rfl ?_
    refine am_q_aload_n rfl rfl ?_
    refine am_q_bipush (v := nI 18) rfl rfl ?_
    refine am_q_iconst (v := nI 4) rfl rfl ?_
    refine am_q_call rfl rfl (m_wordHere0 _ 18 4 (by decide) n i ν hX hP0) rfl ?_
    refine am_q_istore_n [some _, some _, some _, some _] rfl (Nat.le_of_ble_eq_true rfl) rfl ?_
    refine am_q_iload_n rfl rfl ?_
    refine am_q_if_ge rfl (fun c_36 => ?_) (fun c_36 => ?_)
    · refine am_q_iload_n rfl rfl ?_
      refine am_q_iconst (v := nI 5) rfl rfl ?_
      refine am_q_ineN rfl (by omega) (by omega) (fun c_71 => absurd c_71 (by omega)) (fun c_71 => ?_)
      refine am_q_aload_n rfl rfl ?_
      refine am_q_iconst (v := nI 5) rfl rfl ?_
      refine am_q_call rfl rfl (m_wrong0 _ 5 n i ν hX hP0) rfl ?_
      refine am_q_aload_n rfl rfl ?_
      refine am_q_gi rfl rfl rfl am_up_eq ?_
      refine am_q_zleN rfl (by omega) (fun c_83 => absurd c_83 (by omega)) (fun c_83 => ?_)
      refine am_q_return rfl rfl ?_
      exact K
    · refine am_q_iload_n rfl rfl ?_
      refine am_q_zneN rfl (by omega) (fun c_40 => absurd c_40 (by omega)) (fun c_40 => ?_)
      refine am_q_aload_n rfl rfl ?_
      refine am_q_bipush (v := nI 40) rfl rfl ?_
      refine am_q_call rfl rfl (m_isSign0 _ 40 (by decide) n i ν hX hP0) rfl ?_
      refine am_q_if_neB rfl (fun c_49 => ?_) (fun c_49 => ?_)
      · refine am_q_iload_n rfl rfl ?_
        refine am_q_iconst (v := nI 5) rfl rfl ?_
        refine am_q_ineN rfl (by omega) (by omega) (fun c_71 => absurd c_71 (by omega)) (fun c_71 => ?_)
        refine am_q_aload_n rfl rfl ?_
        refine am_q_iconst (v := nI 5) rfl rfl ?_
        refine am_q_call rfl rfl (m_wrong0 _ 5 n i ν hX hP0) rfl ?_
        refine am_q_aload_n rfl rfl ?_
        refine am_q_gi rfl rfl rfl am_up_eq ?_
        refine am_q_zleN rfl (by omega) (fun c_83 => absurd c_83 (by omega)) (fun c_83 => ?_)
        refine am_q_return rfl rfl ?_
        exact K
      · refine am_q_aload_n rfl rfl ?_
        refine am_q_bipush (v := nI 15) rfl rfl ?_
        refine am_q_call rfl rfl (m_isWord0 _ 15 (by decide) n i ν hX hP0) rfl ?_
        refine am_q_if_neB rfl (fun c_58 => ?_) (fun c_58 => (tp_dead hC c_36 (fun z => c_18 (hkc.2.2.1.mpr z)) c_49 c_58).elim)
        refine am_q_iload_n rfl rfl ?_
        refine am_q_iconst (v := nI 5) rfl rfl ?_
        refine am_q_ineN rfl (by omega) (by omega) (fun c_71 => absurd c_71 (by omega)) (fun c_71 => ?_)
        refine am_q_aload_n rfl rfl ?_
        refine am_q_iconst (v := nI 5) rfl rfl ?_
        refine am_q_call rfl rfl (m_wrong0 _ 5 n i ν hX hP0) rfl ?_
        refine am_q_aload_n rfl rfl ?_
        refine am_q_gi rfl rfl rfl am_up_eq ?_
        refine am_q_zleN rfl (by omega) (fun c_83 => absurd c_83 (by omega)) (fun c_83 => ?_)
        refine am_q_return rfl rfl ?_
        exact K
  · refine am_q_iconst (v := nI 1) rfl rfl ?_
    refine am_q_goto rfl ?_
    refine am_q_istore_n [some _, some _, some _, none] rfl (Nat.le_of_ble_eq_true rfl) rfl ?_
    refine am_q_aload_n rfl rfl ?_
    refine am_q_bipush (v := nI 18) rfl rfl ?_
    refine am_q_iconst (v := nI 4) rfl rfl ?_
    refine am_q_call rfl rfl (m_wordHere0 _ 18 4 (by decide) n i ν hX hP0) rfl ?_
    refine am_q_istore_n [some _, some _, some _, some _] rfl (Nat.le_of_ble_eq_true rfl) rfl ?_
    refine am_q_iload_n rfl rfl ?_
    refine am_q_if_ge rfl (fun c_36 => ?_) (fun c_36 => ?_)
    · refine am_q_iload_n rfl rfl ?_
      refine am_q_iconst (v := nI 5) rfl rfl ?_
      refine am_q_ineN rfl (by omega) (by omega) (fun c_71 => absurd c_71 (by omega)) (fun c_71 => ?_)
      refine am_q_aload_n rfl rfl ?_
      refine am_q_iconst (v := nI 5) rfl rfl ?_
      refine am_q_call rfl rfl (m_wrong0 _ 5 n i ν hX hP0) rfl ?_
      refine am_q_aload_n rfl rfl ?_
      refine am_q_gi rfl rfl rfl am_up_eq ?_
      refine am_q_zleN rfl (by omega) (fun c_83 => absurd c_83 (by omega)) (fun c_83 => ?_)
      refine am_q_return rfl rfl ?_
      exact K
    · refine am_q_iload_n rfl rfl ?_
      refine am_q_zneN rfl (by omega) (fun c_40 => ?_) (fun c_40 => absurd c_40 (by omega))
      refine am_q_iload_n rfl rfl ?_
      refine am_q_iconst (v := nI 5) rfl rfl ?_
      refine am_q_ineN rfl (by omega) (by omega) (fun c_71 => absurd c_71 (by omega)) (fun c_71 => ?_)
      refine am_q_aload_n rfl rfl ?_
      refine am_q_iconst (v := nI 5) rfl rfl ?_
      refine am_q_call rfl rfl (m_wrong0 _ 5 n i ν hX hP0) rfl ?_
      refine am_q_aload_n rfl rfl ?_
      refine am_q_gi rfl rfl rfl am_up_eq ?_
      refine am_q_zleN rfl (by omega) (fun c_83 => absurd c_83 (by omega)) (fun c_83 => ?_)
      refine am_q_return rfl rfl ?_
      exact K

theorem m_tpC (d n dp i : Nat) {X : tTp} {μ : am_M2} {ν : am_N2} (hX : tpOk X) (hP : mP μ ν X i) (hdp : dp ≤ 5) (hC : tpC X i) (h5 : dp < 5) (Q : am_R → Prop) (K : am_w (d + 3) (Option.none : Option FieldType) am_g209 87 [some (.ref 133), some (.int (nI dp)), some (.int (nI (if kd X i = 3 then 1 else 0))), some (.int (oI (whF X i 18 4)))] [] (am_hp n μ ν) Q) : am_w (d + 3) (Option.none : Option FieldType) am_g209 0 [some (.ref 133), some (.int (nI dp)), none, none] [] (am_hp n μ ν) (Q) := by
  have hN := tN_1k hX
  have hP0 := hP
  obtain ⟨hT, hG, hA, hF, hi⟩ := hP
  obtain ⟨t1, t2, t3, t4, t5⟩ := hT i hi
  have hkc := mS_c (kd_le X i)
  have hk4 := kd_le X i
  have hpl := pl_1k hX i
  refine am_q_aload_n rfl rfl ?_
  refine am_q_gi rfl rfl rfl hF ?_
  refine am_q_zleN rfl (by omega) (fun c_4 => ?_) (fun c_4 => absurd c_4 (by omega))
  refine am_q_aload_n rfl rfl ?_
  refine am_q_gr rfl rfl rfl ?_
  refine am_q_aload_n rfl rfl ?_
  refine am_q_gi rfl rfl rfl hA ?_
  refine am_q_iald rfl rfl (am_ix_nI (show i < 1002 by omega) (by decide)) t1 ?_
  refine am_q_iconst (v := nI 2) rfl rfl ?_
  refine am_q_ineN rfl (by omega) (by omega) (fun c_18 => ?_) (fun c_18 => ?_)
  · refine am_q_iconst (v := nI 0) rfl rfl ?_
    refine am_q_istore_n [some _, some _, some _, none] rfl (Nat.le_of_ble_eq_true rfl) rfl ?_
    refine am_q_aload_n rfl rfl ?_
    refine am_q_bipush (v := nI 18) rfl rfl ?_
    refine am_q_iconst (v := nI 4) rfl rfl ?_
    refine am_q_call rfl rfl (m_wordHere0 _ 18 4 (by decide) n i ν hX hP0) rfl ?_
    refine am_q_istore_n [some _, some _, some _, some _] rfl (Nat.le_of_ble_eq_true rfl) rfl ?_
    refine am_q_iload_n rfl rfl ?_
    refine am_q_if_ge rfl (fun c_36 => ?_) (fun c_36 => ?_)
    · refine am_q_iload_n rfl rfl ?_
      refine am_q_iconst (v := nI 5) rfl rfl ?_
      refine am_q_ineN rfl (by omega) (by omega) (fun c_71 => ?_) (fun c_71 => absurd c_71 (by omega))
      refine am_q_aload_n rfl rfl ?_
      refine am_q_gi rfl rfl rfl hF ?_
      refine am_q_zleN rfl (by omega) (fun c_83 => ?_) (fun c_83 => absurd c_83 (by omega))
      first
      | (rw [if_pos (hkc.2.2.1.mp (by assumption))] at K; exact K)
      | (rw [if_neg (fun z => absurd (hkc.2.2.1.mpr z) (by assumption))] at K; exact K)
    · refine am_q_iload_n rfl rfl ?_
      refine am_q_zneN rfl (by omega) (fun c_40 => absurd c_40 (by omega)) (fun c_40 => ?_)
      refine am_q_aload_n rfl rfl ?_
      refine am_q_bipush (v := nI 40) rfl rfl ?_
      refine am_q_call rfl rfl (m_isSign0 _ 40 (by decide) n i ν hX hP0) rfl ?_
      refine am_q_if_neB rfl (fun c_49 => ?_) (fun c_49 => ?_)
      · refine am_q_iload_n rfl rfl ?_
        refine am_q_iconst (v := nI 5) rfl rfl ?_
        refine am_q_ineN rfl (by omega) (by omega) (fun c_71 => ?_) (fun c_71 => absurd c_71 (by omega))
        refine am_q_aload_n rfl rfl ?_
        refine am_q_gi rfl rfl rfl hF ?_
        refine am_q_zleN rfl (by omega) (fun c_83 => ?_) (fun c_83 => absurd c_83 (by omega))
        first
        | (rw [if_pos (hkc.2.2.1.mp (by assumption))] at K; exact K)
        | (rw [if_neg (fun z => absurd (hkc.2.2.1.mpr z) (by assumption))] at K; exact K)
      · refine am_q_aload_n rfl rfl ?_
        refine am_q_bipush (v := nI 15) rfl rfl ?_
        refine am_q_call rfl rfl (m_isWord0 _ 15 (by decide) n i ν hX hP0) rfl ?_
        refine am_q_if_neB rfl (fun c_58 => ?_) (fun c_58 => (tp_dead hC c_36 (fun z => c_18 (hkc.2.2.1.mpr z)) c_49 c_58).elim)
        refine am_q_iload_n rfl rfl ?_
        refine am_q_iconst (v := nI 5) rfl rfl ?_
        refine am_q_ineN rfl (by omega) (by omega) (fun c_71 => ?_) (fun c_71 => absurd c_71 (by omega))
        refine am_q_aload_n rfl rfl ?_
        refine am_q_gi rfl rfl rfl hF ?_
        refine am_q_zleN rfl (by omega) (fun c_83 => ?_) (fun c_83 => absurd c_83 (by omega))
        first
        | (rw [if_pos (hkc.2.2.1.mp (by assumption))] at K; exact K)
        | (rw [if_neg (fun z => absurd (hkc.2.2.1.mpr z) (by assumption))] at K; exact K)
  · refine am_q_iconst (v := nI 1) rfl rfl ?_
    refine am_q_goto rfl ?_
    refine am_q_istore_n [some _, some _, some _, none] rfl (Nat.le_of_ble_eq_true rfl) rfl ?_
    refine am_q_aload_n rfl rfl ?_
    refine am_q_bipush (v := nI 18) rfl rfl ?_
    refine am_q_iconst (v := nI 4) rfl rfl ?_
    refine am_q_call rfl rfl (m_wordHere0 _ 18 4 (by decide) n i ν hX hP0) rfl ?_
    refine am_q_istore_n [some _, some _, some _, some _] rfl (Nat.le_of_ble_eq_true rfl) rfl ?_
    refine am_q_iload_n rfl rfl ?_
    refine am_q_if_ge rfl (fun c_36 => ?_) (fun c_36 => ?_)
    · refine am_q_iload_n rfl rfl ?_
      refine am_q_iconst (v := nI 5) rfl rfl ?_
      refine am_q_ineN rfl (by omega) (by omega) (fun c_71 => ?_) (fun c_71 => absurd c_71 (by omega))
      refine am_q_aload_n rfl rfl ?_
      refine am_q_gi rfl rfl rfl hF ?_
      refine am_q_zleN rfl (by omega) (fun c_83 => ?_) (fun c_83 => absurd c_83 (by omega))
      first
      | (rw [if_pos (hkc.2.2.1.mp (by assumption))] at K; exact K)
      | (rw [if_neg (fun z => absurd (hkc.2.2.1.mpr z) (by assumption))] at K; exact K)
    · refine am_q_iload_n rfl rfl ?_
      refine am_q_zneN rfl (by omega) (fun c_40 => ?_) (fun c_40 => absurd c_40 (by omega))
      refine am_q_iload_n rfl rfl ?_
      refine am_q_iconst (v := nI 5) rfl rfl ?_
      refine am_q_ineN rfl (by omega) (by omega) (fun c_71 => ?_) (fun c_71 => absurd c_71 (by omega))
      refine am_q_aload_n rfl rfl ?_
      refine am_q_gi rfl rfl rfl hF ?_
      refine am_q_zleN rfl (by omega) (fun c_83 => ?_) (fun c_83 => absurd c_83 (by omega))
      first
      | (rw [if_pos (hkc.2.2.1.mp (by assumption))] at K; exact K)
      | (rw [if_neg (fun z => absurd (hkc.2.2.1.mpr z) (by assumption))] at K; exact K)

theorem m_tpN (d n dp i : Nat) {X : tTp} {μ : am_M2} {ν : am_N2} (hX : tpOk X) (hP : mP μ ν X i) (x y : Int32) (h1 : isWd X i 15 = true) (Q : am_R → Prop) (K : am_w (d + 3) (Option.none : Option FieldType) am_g209 100 [some (.ref 133), some (.int (nI dp)), some (.int x), some (.int y)] [.int (nI (dp + 1)), .ref 133] (am_hp n (am_up μ 133 7 (nI (i + 1))) ν) Q) : am_w (d + 3) (Option.none : Option FieldType) am_g209 87 [some (.ref 133), some (.int (nI dp)), some (.int x), some (.int y)] [] (am_hp n μ ν) (Q) := by
  refine am_q_aload_n rfl rfl ?_
  refine am_q_bipush (v := nI 15) rfl rfl ?_
  refine am_q_call rfl rfl (m_hasWT _ 15 (by decide) n i ν hX hP h1) rfl ?_
  refine am_q_if_eqB rfl (fun c_93 => by simp at c_93) (fun c_93 => ?_)
  refine am_q_aload_n rfl rfl ?_
  refine am_q_iload_n rfl rfl ?_
  refine am_q_iconst (v := nI 1) rfl rfl ?_
  refine am_q_iadd rfl (nI_add _ _) ?_
  exact K

theorem m_tpN2 (d n dp L : Nat) {μ : am_M2} {ν : am_N2} (x y : Int32) (hL : μ 133 12 = nI L) (hL2 : L < 1100) (Q : am_R → Prop) (K : Q (none, am_hp n (am_up (am_up μ 140 (1100 + L) (nI (3 + 16 * 0))) 133 12 (nI (L + 1))) ν)) : am_w (d + 3) (Option.none : Option FieldType) am_g209 103 [some (.ref 133), some (.int (nI dp)), some (.int x), some (.int y)] [] (am_hp n μ ν) (Q) := by
  refine am_q_aload_n rfl rfl ?_
  refine am_q_iconst (v := nI 3) rfl rfl ?_
  refine am_q_iconst (v := nI 0) rfl rfl ?_
  refine am_q_call rfl rfl (m_emit _ n 3 0 L ν hL hL2) rfl ?_
  refine am_q_goto rfl ?_
  refine am_q_return rfl rfl ?_
  exact K

theorem m_tpS (d n dp i : Nat) {X : tTp} {μ : am_M2} {ν : am_N2} (hX : tpOk X) (hP : mP μ ν X i) (x y : Int32) (h1 : isWd X i 15 = false) (h2 : isSg X i 40 = true) (Q : am_R → Prop) (K : am_w (d + 3) (Option.none : Option FieldType) am_g209 125 [some (.ref 133), some (.int (nI dp)), some (.int x), some (.int y)] [.int (nI (dp + 1)), .ref 133] (am_hp n (am_up μ 133 7 (nI (i + 1))) ν) Q) : am_w (d + 3) (Option.none : Option FieldType) am_g209 87 [some (.ref 133), some (.int (nI dp)), some (.int x), some (.int y)] [] (am_hp n μ ν) (Q) := by
  refine am_q_aload_n rfl rfl ?_
  refine am_q_bipush (v := nI 15) rfl rfl ?_
  refine am_q_call rfl rfl (m_hasWF _ 15 (by decide) n i ν hX hP h1) rfl ?_
  refine am_q_if_eqB rfl (fun c_93 => ?_) (fun c_93 => by simp at c_93)
  refine am_q_aload_n rfl rfl ?_
  refine am_q_bipush (v := nI 40) rfl rfl ?_
  refine am_q_call rfl rfl (m_hasST _ 40 (by decide) n i ν hX hP h2) rfl ?_
  refine am_q_if_eqB rfl (fun c_118 => by simp at c_118) (fun c_118 => ?_)
  refine am_q_aload_n rfl rfl ?_
  refine am_q_iload_n rfl rfl ?_
  refine am_q_iconst (v := nI 1) rfl rfl ?_
  refine am_q_iadd rfl (nI_add _ _) ?_
  exact K

theorem m_tpSF (d dp : Nat) (x y : Int32) (n c : Nat) {μ : am_M2} (ν : am_N2) (hc : 0 < c) (hc2 : c < 2 ^ 30) (hF : μ 133 8 = nI c) (Q : am_R → Prop) (K : Q (none, am_hp n μ ν)) : am_w (d + 3) (Option.none : Option FieldType) am_g209 128 [some (.ref 133), some (.int (nI dp)), some (.int x), some (.int y)] [] (am_hp n μ ν) (Q) := by
  refine am_q_aload_n rfl rfl ?_
  refine am_q_bipush (v := nI 41) rfl rfl ?_
  refine am_q_call rfl rfl (m_takeSign1 _ 41 n c ν hc hc2 hF) rfl ?_
  refine am_q_goto rfl ?_
  refine am_q_return rfl rfl ?_
  exact K

theorem m_tpS2 (d n dp i : Nat) {X : tTp} {μ : am_M2} {ν : am_N2} (hX : tpOk X) (hP : mP μ ν X i) (x y : Int32) (Q : am_R → Prop) (K : Q (none, am_hp n (if isSg X i 41 = true then am_up μ 133 7 (nI (i + 1)) else am_up μ 133 8 (nI (wr X i 1))) ν)) : am_w (d + 3) (Option.none : Option FieldType) am_g209 128 [some (.ref 133), some (.int (nI dp)), some (.int x), some (.int y)] [] (am_hp n μ ν) (Q) := by
  refine am_q_aload_n rfl rfl ?_
  refine am_q_bipush (v := nI 41) rfl rfl ?_
  obtain ⟨μ1, hc1, he1⟩ := m_takeSign0 (d + 1) 41 (by decide) n i ν hX hP
  subst he1
  refine am_q_call rfl rfl (hc1) rfl ?_
  refine am_q_goto rfl ?_
  refine am_q_return rfl rfl ?_
  exact K

theorem m_tpL1 (d n dp i L : Nat) {X : tTp} {μ : am_M2} {ν : am_N2} (hX : tpOk X) (hP : mP μ ν X i) (hL : μ 133 12 = nI L) (hL2 : L < 1100) (h1 : isWd X i 15 = false) (h2 : isSg X i 40 = false) (hk : kd X i = 3) (y : Int32) (Q : am_R → Prop) (K : Q (none, am_hp n (am_up (am_up (am_up μ 140 (1100 + L) (nI (1 + 16 * (nu X i)))) 133 12 (nI (L + 1))) 133 7 (nI (i + 1))) ν)) : am_w (d + 3) (Option.none : Option FieldType) am_g209 87 [some (.ref 133), some (.int (nI dp)), some (.int (nI 1)), some (.int y)] [] (am_hp n μ ν) (Q) := by
  have hN := tN_1k hX
  have hP0 := hP
  obtain ⟨hT, hG, hA, hF, hi⟩ := hP
  obtain ⟨t1, t2, t3, t4, t5⟩ := hT i hi
  have hkc := mS_c (kd_le X i)
  have hk4 := kd_le X i
  have hpl := pl_1k hX i
  have hv := kd_nu hk
  refine am_q_aload_n rfl rfl ?_
  refine am_q_bipush (v := nI 15) rfl rfl ?_
  refine am_q_call rfl rfl (m_hasWF _ 15 (by decide) n i ν hX hP0 h1) rfl ?_
  refine am_q_if_eqB rfl (fun c_93 => ?_) (fun c_93 => by simp at c_93)
  refine am_q_aload_n rfl rfl ?_
  refine am_q_bipush (v := nI 40) rfl rfl ?_
  refine am_q_call rfl rfl (m_hasSF _ 40 (by decide) n i ν hX hP0 h2) rfl ?_
  refine am_q_if_eqB rfl (fun c_118 => ?_) (fun c_118 => by simp at c_118)
  refine am_q_aload_n rfl rfl ?_
  refine am_q_iload_n rfl rfl ?_
  refine am_q_zeqN rfl (by omega) (fun c_139 => absurd c_139 (by omega)) (fun c_139 => ?_)
  refine am_q_iconst (v := nI 1) rfl rfl ?_
  refine am_q_goto rfl ?_
  refine am_q_iload_n rfl rfl ?_
  refine am_q_zeqN rfl (by omega) (fun c_148 => absurd c_148 (by omega)) (fun c_148 => ?_)
  refine am_q_aload_n rfl rfl ?_
  refine am_q_gr rfl rfl rfl ?_
  refine am_q_aload_n rfl rfl ?_
  refine am_q_gi rfl rfl rfl hA ?_
  refine am_q_lald rfl rfl (am_ix_nI (show i < 1002 by omega) (by decide)) (t4 hk) ?_
  refine am_q_l2i rfl (lN_i _) ?_
  refine am_q_goto rfl ?_
  refine am_q_call rfl rfl (m_emit _ n 1 (nu X i) L ν hL hL2) rfl ?_
  refine am_q_aload_n rfl rfl ?_
  refine am_q_dupr rfl ?_
  refine am_q_gi rfl rfl rfl ((am_up_ne (by omega)).trans ((am_up_ne (by omega)).trans hA)) ?_
  refine am_q_iconst (v := nI 1) rfl rfl ?_
  refine am_q_iadd rfl (nI_add _ _) ?_
  refine am_q_pi rfl rfl rfl (Or.inl rfl) ?_
  refine am_q_return rfl rfl ?_
  exact K

theorem m_tpL2 (d n dp i L : Nat) {X : tTp} {μ : am_M2} {ν : am_N2} (hX : tpOk X) (hP : mP μ ν X i) (hL : μ 133 12 = nI L) (hL2 : L < 1100) (h1 : isWd X i 15 = false) (h2 : isSg X i 40 = false) (j : Nat) (Q : am_R → Prop) (K : Q (none, am_hp n (am_up (am_up (am_up μ 140 (1100 + L) (nI (2 + 16 * j))) 133 12 (nI (L + 1))) 133 7 (nI (i + 1))) ν)) : am_w (d + 3) (Option.none : Option FieldType) am_g209 87 [some (.ref 133), some (.int (nI dp)), some (.int (nI 0)), some (.int (nI j))] [] (am_hp n μ ν) (Q) := by
  have hN := tN_1k hX
  have hP0 := hP
  obtain ⟨hT, hG, hA, hF, hi⟩ := hP
  obtain ⟨t1, t2, t3, t4, t5⟩ := hT i hi
  have hkc := mS_c (kd_le X i)
  have hk4 := kd_le X i
  have hpl := pl_1k hX i
  refine am_q_aload_n rfl rfl ?_
  refine am_q_bipush (v := nI 15) rfl rfl ?_
  refine am_q_call rfl rfl (m_hasWF _ 15 (by decide) n i ν hX hP0 h1) rfl ?_
  refine am_q_if_eqB rfl (fun c_93 => ?_) (fun c_93 => by simp at c_93)
  refine am_q_aload_n rfl rfl ?_
  refine am_q_bipush (v := nI 40) rfl rfl ?_
  refine am_q_call rfl rfl (m_hasSF _ 40 (by decide) n i ν hX hP0 h2) rfl ?_
  refine am_q_if_eqB rfl (fun c_118 => ?_) (fun c_118 => by simp at c_118)
  refine am_q_aload_n rfl rfl ?_
  refine am_q_iload_n rfl rfl ?_
  refine am_q_zeqN rfl (by omega) (fun c_139 => ?_) (fun c_139 => absurd c_139 (by omega))
  refine am_q_iconst (v := nI 2) rfl rfl ?_
  refine am_q_iload_n rfl rfl ?_
  refine am_q_zeqN rfl (by omega) (fun c_148 => ?_) (fun c_148 => absurd c_148 (by omega))
  refine am_q_iload_n rfl rfl ?_
  refine am_q_call rfl rfl (m_emit _ n 2 j L ν hL hL2) rfl ?_
  refine am_q_aload_n rfl rfl ?_
  refine am_q_dupr rfl ?_
  refine am_q_gi rfl rfl rfl ((am_up_ne (by omega)).trans ((am_up_ne (by omega)).trans hA)) ?_
  refine am_q_iconst (v := nI 1) rfl rfl ?_
  refine am_q_iadd rfl (nI_add _ _) ?_
  refine am_q_pi rfl rfl rfl (Or.inl rfl) ?_
  refine am_q_return rfl rfl ?_
  exact K
