theorem m_cutZ (d n t p : Nat) {X : tTp} {μ : am_M2} {ν : am_N2} (hX : tpOk X) (hT : ∀ j, j < X.2 → μ 134 j = nI (X.1 j)) (hS : μ 133 3 = nI X.2) (ht : t ≤ 1000) (o3 o4 o5 o6 : Option Value) (Q : am_R → Prop) (hp : X.2 ≤ p) (hp2 : p ≤ 1000) (K : Q (none, am_hp n (am_up (am_up (am_up (am_up μ 135 t (nI 0)) 136 t (nI X.2)) 133 7 (nI 0)) 133 8 (nI 0)) ν)) : am_w (d + 3) (Option.none : Option FieldType) am_g185 17 [some (.ref 133), some (.int (nI t)), some (.int (nI p)), o3, o4, o5, o6] [] (am_hp n μ ν) (Q) := by
  have h1000 := hX.1
  refine am_q_iload_n rfl rfl ?_
  refine am_q_aload_n rfl rfl ?_
  refine am_q_gi rfl rfl rfl hS ?_
  refine am_q_igeN rfl (by omega) (by omega) (fun c_22 => ?_) (fun c_22 => absurd c_22 (by omega))
  refine am_q_aload_n rfl rfl ?_
  refine am_q_gr rfl rfl rfl ?_
  refine am_q_iload_n rfl rfl ?_
  refine am_q_iconst (v := nI 0) rfl rfl ?_
  refine am_q_iast rfl rfl (by first | exact am_ix_nI (by omega) (by omega) | rfl) rfl ?_
  refine am_q_aload_n rfl rfl ?_
  refine am_q_gr rfl rfl rfl ?_
  refine am_q_iload_n rfl rfl ?_
  refine am_q_aload_n rfl rfl ?_
  refine am_q_gi rfl rfl rfl ((am_up_ne (by omega)).trans hS) ?_
  refine am_q_iast rfl rfl (by first | exact am_ix_nI (by omega) (by omega) | rfl) rfl ?_
  refine am_q_aload_n rfl rfl ?_
  refine am_q_iconst (v := nI 0) rfl rfl ?_
  refine am_q_pi rfl rfl rfl (Or.inl rfl) ?_
  refine am_q_aload_n rfl rfl ?_
  refine am_q_iconst (v := nI 0) rfl rfl ?_
  refine am_q_pi rfl rfl rfl (Or.inl rfl) ?_
  refine am_q_return rfl rfl ?_
  exact K

theorem m_cutB (d n t p : Nat) {X : tTp} {μ : am_M2} {ν : am_N2} (hX : tpOk X) (hT : ∀ j, j < X.2 → μ 134 j = nI (X.1 j)) (hS : μ 133 3 = nI X.2) (ht : t ≤ 1000) (o3 o4 o5 o6 : Option Value) (Q : am_R → Prop) (hp : p < X.2) (hb : X.1 p = 10 ∨ X.1 p = 32) (K : am_w (d + 3) (Option.none : Option FieldType) am_g185 17 [some (.ref 133), some (.int (nI t)), some (.int (nI (p + 1))), some (.int (nI (X.1 p))), o4, o5, o6] [] (am_hp n μ ν) Q) : am_w (d + 3) (Option.none : Option FieldType) am_g185 17 [some (.ref 133), some (.int (nI t)), some (.int (nI p)), o3, o4, o5, o6] [] (am_hp n μ ν) (Q) := by
  have h1000 := hX.1
  have hcp := tp_128 hX hp
  refine am_q_iload_n rfl rfl ?_
  refine am_q_aload_n rfl rfl ?_
  refine am_q_gi rfl rfl rfl hS ?_
  refine am_q_igeN rfl (by omega) (by omega) (fun c_22 => absurd c_22 (by omega)) (fun c_22 => ?_)
  refine am_q_aload_n rfl rfl ?_
  refine am_q_gr rfl rfl rfl ?_
  refine am_q_iload_n rfl rfl ?_
  refine am_q_iald rfl rfl (am_ix_nI (show p < 1000 by omega) (by decide)) (hT p (by omega)) ?_
  refine am_q_istore_n [some _, some _, some _, some _, _, _, _] rfl (Nat.le_of_ble_eq_true rfl) rfl ?_
  refine am_q_iload_n rfl rfl ?_
  refine am_q_bipush (v := nI 10) rfl rfl ?_
  refine am_q_ieqN rfl (by omega) (by omega) (fun c_35 => ?_) (fun c_35 => ?_)
  · refine am_q_iinc [some _, some _, some _, some _, _, _, _] rfl (c := nI 1) rfl rfl (Nat.le_of_ble_eq_true rfl) (nI_add _ _) rfl ?_
    refine am_q_goto rfl ?_
    exact K
  · refine am_q_iload_n rfl rfl ?_
    refine am_q_bipush (v := nI 32) rfl rfl ?_
    refine am_q_ineN rfl (by omega) (by omega) (fun c_41 => absurd c_41 (by omega)) (fun c_41 => ?_)
    refine am_q_iinc [some _, some _, some _, some _, _, _, _] rfl (c := nI 1) rfl rfl (Nat.le_of_ble_eq_true rfl) (nI_add _ _) rfl ?_
    refine am_q_goto rfl ?_
    exact K

theorem m_cutC2 (d n t e c0 q : Nat) (v : Int64) {μ : am_M2} {ν : am_N2} (ht : t ≤ 1000) (hqe : q ≤ e) (he : e ≤ 1000) (Q : am_R → Prop) (K : am_w (d + 3) (Option.none : Option FieldType) am_g185 17 [some (.ref 133), some (.int (nI (t + 1))), some (.int (nI e)), some (.int (nI c0)), some (.int (nI q)), some (.long v), none] [] (am_hp n (am_up μ 135 t (nI (if 8 < e - q then 4 else 1))) (am_upL ν 137 t v)) Q) : am_w (d + 3) (Option.none : Option FieldType) am_g185 129 [some (.ref 133), some (.int (nI t)), some (.int (nI e)), some (.int (nI c0)), some (.int (nI q)), some (.long v), none] [] (am_hp n μ ν) (Q) := by
  refine am_q_aload_n rfl rfl ?_
  refine am_q_gr rfl rfl rfl ?_
  refine am_q_iload_n rfl rfl ?_
  refine am_q_iload_n rfl rfl ?_
  refine am_q_iload rfl rfl ?_
  refine am_q_isub rfl (pk_sub (by omega)) ?_
  refine am_q_bipush (v := nI 8) rfl rfl ?_
  refine am_q_ileN rfl (by omega) (by omega) (fun c_140 => ?_) (fun c_140 => ?_)
  · refine am_q_iconst (v := nI 1) rfl rfl ?_
    refine am_q_iast rfl rfl (by first | exact am_ix_nI (by omega) (by omega) | rfl) rfl ?_
    refine am_q_goto rfl ?_
    refine am_q_aload_n rfl rfl ?_
    refine am_q_gr rfl rfl rfl ?_
    refine am_q_iload_n rfl rfl ?_
    refine am_q_lload rfl rfl ?_
    refine am_q_last rfl rfl (am_ix_nI (show t < 1002 by omega) (by decide)) ?_
    refine am_q_iinc [some _, some _, some _, some _, some _, some _, none] rfl (c := nI 1) rfl rfl (Nat.le_of_ble_eq_true rfl) (nI_add _ _) rfl ?_
    refine am_q_goto rfl ?_
    first
    | (rw [if_pos (by omega)] at K; exact K)
    | (rw [if_neg (by omega)] at K; exact K)
  · refine am_q_iconst (v := nI 4) rfl rfl ?_
    refine am_q_goto rfl ?_
    refine am_q_iast rfl rfl (by first | exact am_ix_nI (by omega) (by omega) | rfl) rfl ?_
    refine am_q_goto rfl ?_
    refine am_q_aload_n rfl rfl ?_
    refine am_q_gr rfl rfl rfl ?_
    refine am_q_iload_n rfl rfl ?_
    refine am_q_lload rfl rfl ?_
    refine am_q_last rfl rfl (am_ix_nI (show t < 1002 by omega) (by decide)) ?_
    refine am_q_iinc [some _, some _, some _, some _, some _, some _, none] rfl (c := nI 1) rfl rfl (Nat.le_of_ble_eq_true rfl) (nI_add _ _) rfl ?_
    refine am_q_goto rfl ?_
    first
    | (rw [if_pos (by omega)] at K; exact K)
    | (rw [if_neg (by omega)] at K; exact K)

theorem m_cutD2 (d n t e c0 q : Nat) (v : Int64) {μ : am_M2} {ν : am_N2} (ht : t ≤ 1000) (hqe : q ≤ e) (he : e ≤ 1000) (Q : am_R → Prop) (K : am_w (d + 3) (Option.none : Option FieldType) am_g185 17 [some (.ref 133), some (.int (nI (t + 1))), some (.int (nI e)), some (.int (nI c0)), some (.int (nI q)), some (.long v), none] [] (am_hp n (am_up μ 135 t (nI (if 4 < e - q then 4 else 2))) (am_upL ν 137 t v)) Q) : am_w (d + 3) (Option.none : Option FieldType) am_g185 218 [some (.ref 133), some (.int (nI t)), some (.int (nI e)), some (.int (nI c0)), some (.int (nI q)), some (.long v), none] [] (am_hp n μ ν) (Q) := by
  refine am_q_aload_n rfl rfl ?_
  refine am_q_gr rfl rfl rfl ?_
  refine am_q_iload_n rfl rfl ?_
  refine am_q_iload_n rfl rfl ?_
  refine am_q_iload rfl rfl ?_
  refine am_q_isub rfl (pk_sub (by omega)) ?_
  refine am_q_iconst (v := nI 4) rfl rfl ?_
  refine am_q_ileN rfl (by omega) (by omega) (fun c_228 => ?_) (fun c_228 => ?_)
  · refine am_q_iconst (v := nI 2) rfl rfl ?_
    refine am_q_iast rfl rfl (by first | exact am_ix_nI (by omega) (by omega) | rfl) rfl ?_
    refine am_q_goto rfl ?_
    refine am_q_aload_n rfl rfl ?_
    refine am_q_gr rfl rfl rfl ?_
    refine am_q_iload_n rfl rfl ?_
    refine am_q_lload rfl rfl ?_
    refine am_q_last rfl rfl (am_ix_nI (show t < 1002 by omega) (by decide)) ?_
    refine am_q_iinc [some _, some _, some _, some _, some _, some _, none] rfl (c := nI 1) rfl rfl (Nat.le_of_ble_eq_true rfl) (nI_add _ _) rfl ?_
    refine am_q_goto rfl ?_
    first
    | (rw [if_pos (by omega)] at K; exact K)
    | (rw [if_neg (by omega)] at K; exact K)
  · refine am_q_iconst (v := nI 4) rfl rfl ?_
    refine am_q_goto rfl ?_
    refine am_q_iast rfl rfl (by first | exact am_ix_nI (by omega) (by omega) | rfl) rfl ?_
    refine am_q_goto rfl ?_
    refine am_q_aload_n rfl rfl ?_
    refine am_q_gr rfl rfl rfl ?_
    refine am_q_iload_n rfl rfl ?_
    refine am_q_lload rfl rfl ?_
    refine am_q_last rfl rfl (am_ix_nI (show t < 1002 by omega) (by decide)) ?_
    refine am_q_iinc [some _, some _, some _, some _, some _, some _, none] rfl (c := nI 1) rfl rfl (Nat.le_of_ble_eq_true rfl) (nI_add _ _) rfl ?_
    refine am_q_goto rfl ?_
    first
    | (rw [if_pos (by omega)] at K; exact K)
    | (rw [if_neg (by omega)] at K; exact K)

theorem m_cutC (d n t p : Nat) {X : tTp} {μ : am_M2} {ν : am_N2} (hX : tpOk X) (hT : ∀ j, j < X.2 → μ 134 j = nI (X.1 j)) (hS : μ 133 3 = nI X.2) (ht : t ≤ 1000) (o3 o4 o5 o6 : Option Value) (Q : am_R → Prop) (hp : p < X.2) (hb : ¬ (X.1 p = 10 ∨ X.1 p = 32)) (hl : leB (X.1 p) = true) (e : Nat) (hpe : p < e) (hen : e ≤ X.2) (hle : ∀ x, p ≤ x → x < e → leB (X.1 x) = true) (hno : e < X.2 → leB (X.1 e) = false) (K : am_w (d + 3) (Option.none : Option FieldType) am_g185 17 [some (.ref 133), some (.int (nI (t + 1))), some (.int (nI e)), some (.int (nI (X.1 p))), some (.int (nI p)), some (.long (lN (cvF X p (min (e - p) 8)))), none] [] (am_hp n (am_up (am_up μ 136 t (nI p)) 135 t (nI (if 8 < e - p then 4 else 1))) (am_upL ν 137 t (lN (cvF X p (min (e - p) 8))))) Q) : am_w (d + 3) (Option.none : Option FieldType) am_g185 17 [some (.ref 133), some (.int (nI t)), some (.int (nI p)), o3, o4, o5, o6] [] (am_hp n μ ν) (Q) := by
  have h1000 := hX.1
  have hcp := tp_128 hX hp
  refine am_q_iload_n rfl rfl ?_
  refine am_q_aload_n rfl rfl ?_
  refine am_q_gi rfl rfl rfl hS ?_
  refine am_q_igeN rfl (by omega) (by omega) (fun c_22 => absurd c_22 (by omega)) (fun c_22 => ?_)
  refine am_q_aload_n rfl rfl ?_
  refine am_q_gr rfl rfl rfl ?_
  refine am_q_iload_n rfl rfl ?_
  refine am_q_iald rfl rfl (am_ix_nI (show p < 1000 by omega) (by decide)) (hT p (by omega)) ?_
  refine am_q_istore_n [some _, some _, some _, some _, _, _, _] rfl (Nat.le_of_ble_eq_true rfl) rfl ?_
  refine am_q_iload_n rfl rfl ?_
  refine am_q_bipush (v := nI 10) rfl rfl ?_
  refine am_q_ieqN rfl (by omega) (by omega) (fun c_35 => absurd c_35 (by omega)) (fun c_35 => ?_)
  refine am_q_iload_n rfl rfl ?_
  refine am_q_bipush (v := nI 32) rfl rfl ?_
  refine am_q_ineN rfl (by omega) (by omega) (fun c_41 => ?_) (fun c_41 => absurd c_41 (by omega))
  refine am_q_iload_n rfl rfl ?_
  refine am_q_istore [some _, some _, some _, some _, some _, _, _] rfl (Nat.le_of_ble_eq_true rfl) rfl ?_
  refine am_q_lconst (v := lN 0) rfl rfl ?_
  refine am_q_lstore [some _, some _, some _, some _, some _, some _, none] rfl (Nat.le_of_ble_eq_true rfl) rfl ?_
  refine am_q_aload_n rfl rfl ?_
  refine am_q_gr rfl rfl rfl ?_
  refine am_q_iload_n rfl rfl ?_
  refine am_q_iload_n rfl rfl ?_
  refine am_q_iast rfl rfl (by first | exact am_ix_nI (by omega) (by omega) | rfl) rfl ?_
  refine am_q_iload_n rfl rfl ?_
  refine am_q_call rfl rfl (m_isLetter _ (X.1 p) (by omega) _) rfl ?_
  refine am_q_if_eqB rfl (fun c_67 => by rw [hl] at c_67; cases c_67) (fun c_67 => ?_)
  have z0 : lN (cvF X p (min (p - p) 8)) = lN 0 := by rw [Nat.sub_self]; rfl
  have g := m_cwL d n t p e (X.1 p) (μ := am_up μ 136 t (nI p)) ν hX (fun j hj => (am_up_ne (by omega)).trans (hT j hj)) ((am_up_ne (by omega)).trans hS) hpe hen hle hno Q (m_cutC2 d n t e (X.1 p) p _ ht (by omega) (by omega) Q K) (e - p) p (by omega) (Nat.le_refl _)
  rw [z0] at g
  exact g

theorem m_cutD (d n t p : Nat) {X : tTp} {μ : am_M2} {ν : am_N2} (hX : tpOk X) (hT : ∀ j, j < X.2 → μ 134 j = nI (X.1 j)) (hS : μ 133 3 = nI X.2) (ht : t ≤ 1000) (o3 o4 o5 o6 : Option Value) (Q : am_R → Prop) (hp : p < X.2) (hb : ¬ (X.1 p = 10 ∨ X.1 p = 32)) (hl : leB (X.1 p) = false) (hd : diB (X.1 p) = true) (e : Nat) (hpe : p < e) (hen : e ≤ X.2) (hle : ∀ x, p ≤ x → x < e → diB (X.1 x) = true) (hno : e < X.2 → diB (X.1 e) = false) (K : am_w (d + 3) (Option.none : Option FieldType) am_g185 17 [some (.ref 133), some (.int (nI (t + 1))), some (.int (nI e)), some (.int (nI (X.1 p))), some (.int (nI p)), some (.long (lN (nuF X p (min (e - p) 4)))), none] [] (am_hp n (am_up (am_up μ 136 t (nI p)) 135 t (nI (if 4 < e - p then 4 else 2))) (am_upL ν 137 t (lN (nuF X p (min (e - p) 4))))) Q) : am_w (d + 3) (Option.none : Option FieldType) am_g185 17 [some (.ref 133), some (.int (nI t)), some (.int (nI p)), o3, o4, o5, o6] [] (am_hp n μ ν) (Q) := by
  have h1000 := hX.1
  have hcp := tp_128 hX hp
  refine am_q_iload_n rfl rfl ?_
  refine am_q_aload_n rfl rfl ?_
  refine am_q_gi rfl rfl rfl hS ?_
  refine am_q_igeN rfl (by omega) (by omega) (fun c_22 => absurd c_22 (by omega)) (fun c_22 => ?_)
  refine am_q_aload_n rfl rfl ?_
  refine am_q_gr rfl rfl rfl ?_
  refine am_q_iload_n rfl rfl ?_
  refine am_q_iald rfl rfl (am_ix_nI (show p < 1000 by omega) (by decide)) (hT p (by omega)) ?_
  refine am_q_istore_n [some _, some _, some _, some _, _, _, _] rfl (Nat.le_of_ble_eq_true rfl) rfl ?_
  refine am_q_iload_n rfl rfl ?_
  refine am_q_bipush (v := nI 10) rfl rfl ?_
  refine am_q_ieqN rfl (by omega) (by omega) (fun c_35 => absurd c_35 (by omega)) (fun c_35 => ?_)
  refine am_q_iload_n rfl rfl ?_
  refine am_q_bipush (v := nI 32) rfl rfl ?_
  refine am_q_ineN rfl (by omega) (by omega) (fun c_41 => ?_) (fun c_41 => absurd c_41 (by omega))
  refine am_q_iload_n rfl rfl ?_
  refine am_q_istore [some _, some _, some _, some _, some _, _, _] rfl (Nat.le_of_ble_eq_true rfl) rfl ?_
  refine am_q_lconst (v := lN 0) rfl rfl ?_
  refine am_q_lstore [some _, some _, some _, some _, some _, some _, none] rfl (Nat.le_of_ble_eq_true rfl) rfl ?_
  refine am_q_aload_n rfl rfl ?_
  refine am_q_gr rfl rfl rfl ?_
  refine am_q_iload_n rfl rfl ?_
  refine am_q_iload_n rfl rfl ?_
  refine am_q_iast rfl rfl (by first | exact am_ix_nI (by omega) (by omega) | rfl) rfl ?_
  refine am_q_iload_n rfl rfl ?_
  refine am_q_call rfl rfl (m_isLetter _ (X.1 p) (by omega) _) rfl ?_
  refine am_q_if_eqB rfl (fun c_67 => ?_) (fun c_67 => by rw [hl] at c_67; cases c_67)
  refine am_q_iload_n rfl rfl ?_
  refine am_q_call rfl rfl (m_isDigit _ (X.1 p) (by omega) _) rfl ?_
  refine am_q_if_eqB rfl (fun c_156 => by rw [hd] at c_156; cases c_156) (fun c_156 => ?_)
  have z0 : lN (nuF X p (min (p - p) 4)) = lN 0 := by rw [Nat.sub_self]; rfl
  have g := m_cnL d n t p e (X.1 p) (μ := am_up μ 136 t (nI p)) ν hX (fun j hj => (am_up_ne (by omega)).trans (hT j hj)) ((am_up_ne (by omega)).trans hS) hpe hen hle hno Q (m_cutD2 d n t e (X.1 p) p _ ht (by omega) (by omega) Q K) (e - p) p (by omega) (Nat.le_refl _)
  rw [z0] at g
  exact g

theorem m_cutE (d n t p : Nat) {X : tTp} {μ : am_M2} {ν : am_N2} (hX : tpOk X) (hT : ∀ j, j < X.2 → μ 134 j = nI (X.1 j)) (hS : μ 133 3 = nI X.2) (ht : t ≤ 1000) (o3 o4 o5 o6 : Option Value) (Q : am_R → Prop) (hp : p < X.2) (hb : ¬ (X.1 p = 10 ∨ X.1 p = 32)) (hl : leB (X.1 p) = false) (hd : diB (X.1 p) = false) (K : am_w (d + 3) (Option.none : Option FieldType) am_g185 17 [some (.ref 133), some (.int (nI (t + 1))), some (.int (nI (p + 1))), some (.int (nI (X.1 p))), some (.int (nI p)), some (.long (lN (X.1 p))), none] [] (am_hp n (am_up (am_up μ 136 t (nI p)) 135 t (nI (if sgB (X.1 p) = true then 3 else 4))) (am_upL ν 137 t (lN (X.1 p)))) Q) : am_w (d + 3) (Option.none : Option FieldType) am_g185 17 [some (.ref 133), some (.int (nI t)), some (.int (nI p)), o3, o4, o5, o6] [] (am_hp n μ ν) (Q) := by
  have h1000 := hX.1
  have hcp := tp_128 hX hp
  refine am_q_iload_n rfl rfl ?_
  refine am_q_aload_n rfl rfl ?_
  refine am_q_gi rfl rfl rfl hS ?_
  refine am_q_igeN rfl (by omega) (by omega) (fun c_22 => absurd c_22 (by omega)) (fun c_22 => ?_)
  refine am_q_aload_n rfl rfl ?_
  refine am_q_gr rfl rfl rfl ?_
  refine am_q_iload_n rfl rfl ?_
  refine am_q_iald rfl rfl (am_ix_nI (show p < 1000 by omega) (by decide)) (hT p (by omega)) ?_
  refine am_q_istore_n [some _, some _, some _, some _, _, _, _] rfl (Nat.le_of_ble_eq_true rfl) rfl ?_
  refine am_q_iload_n rfl rfl ?_
  refine am_q_bipush (v := nI 10) rfl rfl ?_
  refine am_q_ieqN rfl (by omega) (by omega) (fun c_35 => absurd c_35 (by omega)) (fun c_35 => ?_)
  refine am_q_iload_n rfl rfl ?_
  refine am_q_bipush (v := nI 32) rfl rfl ?_
  refine am_q_ineN rfl (by omega) (by omega) (fun c_41 => ?_) (fun c_41 => absurd c_41 (by omega))
  refine am_q_iload_n rfl rfl ?_
  refine am_q_istore [some _, some _, some _, some _, some _, _, _] rfl (Nat.le_of_ble_eq_true rfl) rfl ?_
  refine am_q_lconst (v := lN 0) rfl rfl ?_
  refine am_q_lstore [some _, some _, some _, some _, some _, some _, none] rfl (Nat.le_of_ble_eq_true rfl) rfl ?_
  refine am_q_aload_n rfl rfl ?_
  refine am_q_gr rfl rfl rfl ?_
  refine am_q_iload_n rfl rfl ?_
  refine am_q_iload_n rfl rfl ?_
  refine am_q_iast rfl rfl (by first | exact am_ix_nI (by omega) (by omega) | rfl) rfl ?_
  refine am_q_iload_n rfl rfl ?_
  refine am_q_call rfl rfl (m_isLetter _ (X.1 p) (by omega) _) rfl ?_
  refine am_q_if_eqB rfl (fun c_67 => ?_) (fun c_67 => by rw [hl] at c_67; cases c_67)
  refine am_q_iload_n rfl rfl ?_
  refine am_q_call rfl rfl (m_isDigit _ (X.1 p) (by omega) _) rfl ?_
  refine am_q_if_eqB rfl (fun c_156 => ?_) (fun c_156 => by rw [hd] at c_156; cases c_156)
  refine am_q_iload_n rfl rfl ?_
  refine am_q_i2l rfl (nI_l (by omega)) ?_
  refine am_q_lstore [some _, some _, some _, some _, some _, some _, none] rfl (Nat.le_of_ble_eq_true rfl) rfl ?_
  refine am_q_aload_n rfl rfl ?_
  refine am_q_gr rfl rfl rfl ?_
  refine am_q_iload_n rfl rfl ?_
  refine am_q_iload_n rfl rfl ?_
  refine am_q_call rfl rfl (m_isSignOf _ (X.1 p) hcp _) rfl ?_
  refine am_q_if_eqB rfl (fun c_253 => ?_) (fun c_253 => ?_)
  · refine am_q_iconst (v := nI 4) rfl rfl ?_
    refine am_q_iast rfl rfl (by first | exact am_ix_nI (by omega) (by omega) | rfl) rfl ?_
    refine am_q_iinc [some _, some _, some _, some _, some _, some _, none] rfl (c := nI 1) rfl rfl (Nat.le_of_ble_eq_true rfl) (nI_add _ _) rfl ?_
    refine am_q_aload_n rfl rfl ?_
    refine am_q_gr rfl rfl rfl ?_
    refine am_q_iload_n rfl rfl ?_
    refine am_q_lload rfl rfl ?_
    refine am_q_last rfl rfl (by first | exact am_ix_nI (by omega) (by omega) | rfl) ?_
    refine am_q_iinc [some _, some _, some _, some _, some _, some _, none] rfl (c := nI 1) rfl rfl (Nat.le_of_ble_eq_true rfl) (nI_add _ _) rfl ?_
    refine am_q_goto rfl ?_
    first
    | (rw [if_pos (by assumption)] at K; exact K)
    | (rw [if_neg (fun z => by rw [z] at c_253; cases c_253)] at K; exact K)
  · refine am_q_iconst (v := nI 3) rfl rfl ?_
    refine am_q_goto rfl ?_
    refine am_q_iast rfl rfl (by first | exact am_ix_nI (by omega) (by omega) | rfl) rfl ?_
    refine am_q_iinc [some _, some _, some _, some _, some _, some _, none] rfl (c := nI 1) rfl rfl (Nat.le_of_ble_eq_true rfl) (nI_add _ _) rfl ?_
    refine am_q_aload_n rfl rfl ?_
    refine am_q_gr rfl rfl rfl ?_
    refine am_q_iload_n rfl rfl ?_
    refine am_q_lload rfl rfl ?_
    refine am_q_last rfl rfl (by first | exact am_ix_nI (by omega) (by omega) | rfl) ?_
    refine am_q_iinc [some _, some _, some _, some _, some _, some _, none] rfl (c := nI 1) rfl rfl (Nat.le_of_ble_eq_true rfl) (nI_add _ _) rfl ?_
    refine am_q_goto rfl ?_
    first
    | (rw [if_pos (by assumption)] at K; exact K)
    | (rw [if_neg (fun z => by rw [z] at c_253; cases c_253)] at K; exact K)
