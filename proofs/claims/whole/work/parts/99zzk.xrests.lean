/-- StoneSecrets.isDigit(I)Z -/
theorem x_isDigit (d : Nat) (v : Int32) (h : am_H) : am_run (d + 1) 175 [.int v] (h) = some (some (.int (sB (rIn v 0 9))), h) := by
  refine am_r175 (d := d + 0) (Nat.le_of_ble_eq_true rfl) [some (.int v)] rfl ?_
  refine am_q_iload_n rfl rfl ?_
  refine am_q_if_lt rfl (fun c_1 => ?_) (fun c_1 => ?_)
  · refine am_q_iconst (v := nI 0) rfl rfl ?_
    refine am_q_ireturn rfl rfl rfl ?_
    rw [rIn_lo c_1]; rfl
  · refine am_q_iload_n rfl rfl ?_
    refine am_q_bipush (v := nI 9) rfl rfl ?_
    refine am_q_icmp_gt rfl (fun c_7 => ?_) (fun c_7 => ?_)
    · refine am_q_iconst (v := nI 0) rfl rfl ?_
      refine am_q_ireturn rfl rfl rfl ?_
      rw [rIn_hi c_7]; rfl
    · refine am_q_iconst (v := nI 1) rfl rfl ?_
      refine am_q_goto rfl ?_
      refine am_q_ireturn rfl rfl rfl ?_
      rw [rIn_in c_1 c_7]; rfl

/-- StoneSecrets.gain(IIIII)I -/
theorem x_gain (d : Nat) (a c l t w : Int32) (h : am_H) : am_run (d + 1) 176 [.int a, .int c, .int l, .int t, .int w] (h) = some (some (.int (gnF a c l t w)), h) := by
  refine am_r176 (d := d + 0) (Nat.le_of_ble_eq_true rfl) [some (.int a), some (.int c), some (.int l), some (.int t), some (.int w)] rfl ?_
  refine am_q_iload_n rfl rfl ?_
  refine am_q_iconst (v := nI 1) rfl rfl ?_
  refine am_q_icmp_ne rfl (fun c_2 => ?_) (fun c_2 => ?_)
  · refine am_q_iload_n rfl rfl ?_
    refine am_q_iconst (v := nI 1) rfl rfl ?_
    refine am_q_icmp_ne rfl (fun c_19 => ?_) (fun c_19 => ?_)
    · refine am_q_iconst (v := nI 0) rfl rfl ?_
      refine am_q_ireturn rfl rfl rfl ?_
      rw [gnF, if_neg c_2, if_neg c_19]
    · refine am_q_iload rfl rfl ?_
      refine am_q_goto rfl ?_
      refine am_q_ireturn rfl rfl rfl ?_
      rw [gnF, if_neg c_2, if_pos c_19]
  · refine am_q_iload_n rfl rfl ?_
    refine am_q_iconst (v := nI 1) rfl rfl ?_
    refine am_q_icmp_ne rfl (fun c_7 => ?_) (fun c_7 => ?_)
    · refine am_q_iload_n rfl rfl ?_
      refine am_q_ireturn rfl rfl rfl ?_
      rw [gnF, if_pos c_2, if_neg c_7]
    · refine am_q_iload_n rfl rfl ?_
      refine am_q_ineg rfl rfl ?_
      refine am_q_goto rfl ?_
      refine am_q_ireturn rfl rfl rfl ?_
      rw [gnF, if_pos c_2, if_pos c_7]

theorem rx_S0 (d n f : Nat) (hf : f < 2 ^ 20) (l t w wh : Int32) (x7 x8 x9 x10 : Option Value) {μ : am_M2} {ν : am_N2} (P : Nat → am_L → List Value → am_H → Prop) (Kr : rsB l t w 0 = true → nI f = wh → ∀ L, P 142 L [.int (nI 0)] (am_hp n μ ν)) (K : ¬ (rsB l t w 0 = true ∧ nI f = wh) → ∀ x7 x8 x9 x10, am_v (d + 1) (Option.some FieldType.int) am_gx 41 [some (.ref 2), some (.int l), some (.int t), some (.int w), some (.int wh), some (.int (nI (f + if rsB l t w 0 = true then 1 else 0))), some (.int (nI 1)), x7, x8, x9, x10] [] (am_hp n μ ν) P) : am_v (d + 1) (Option.some FieldType.int) am_gx 41 [some (.ref 2), some (.int l), some (.int t), some (.int w), some (.int wh), some (.int (nI f)), some (.int (nI 0)), x7, x8, x9, x10] [] (am_hp n μ ν) P := by
  refine am_e_iload rfl rfl ?_
  refine am_e_iconst (v := nI 4) rfl rfl ?_
  refine am_e_icmp_ge rfl (fun c_44 => absurd c_44 (by decide)) (fun c_44 => ?_)
  refine am_e_iload rfl rfl ?_
  refine am_e_iconst (v := nI 2) rfl rfl ?_
  refine am_e_idiv rfl (by decide) (show nI 0 / nI 2 = nI 0 from by decide) ?_
  refine am_e_istore [some _, some _, some _, some _, some _, some _, some _, some _, _, _, _] rfl (Nat.le_of_ble_eq_true rfl) rfl ?_
  refine am_e_iload rfl rfl ?_
  refine am_e_iconst (v := nI 2) rfl rfl ?_
  refine am_e_irem rfl (by decide) (show nI 0 - nI 0 / nI 2 * nI 2 = nI 0 from by decide) ?_
  refine am_e_istore [some _, some _, some _, some _, some _, some _, some _, some _, some _, _, _] rfl (Nat.le_of_ble_eq_true rfl) rfl ?_
  refine am_e_iload rfl rfl ?_
  refine am_e_iload rfl rfl ?_
  refine am_e_iload_n rfl rfl ?_
  refine am_e_iload_n rfl rfl ?_
  refine am_e_iload_n rfl rfl ?_
  refine am_e_call rfl rfl (x_gain _ _ _ _ _ _ _) rfl ?_
  refine am_e_iconst (v := nI 1) rfl rfl ?_
  refine am_e_iload rfl rfl ?_
  refine am_e_isub rfl (show nI 1 - nI 0 = nI 1 from by decide) ?_
  refine am_e_iload rfl rfl ?_
  refine am_e_iload_n rfl rfl ?_
  refine am_e_iload_n rfl rfl ?_
  refine am_e_iload_n rfl rfl ?_
  refine am_e_call rfl rfl (x_gain _ _ _ _ _ _ _) rfl ?_
  refine am_e_icmp_lt rfl (fun c_81 => ?_) (fun c_81 => ?_)
  · refine am_e_iconst (v := nI 0) rfl rfl ?_
    refine am_e_istore [some _, some _, some _, some _, some _, some _, some _, some _, some _, some _, _] rfl (Nat.le_of_ble_eq_true rfl) rfl ?_
    refine am_e_iload rfl rfl ?_
    refine am_e_iload rfl rfl ?_
    refine am_e_iload_n rfl rfl ?_
    refine am_e_iload_n rfl rfl ?_
    refine am_e_iload_n rfl rfl ?_
    refine am_e_call rfl rfl (x_gain _ _ _ _ _ _ _) rfl ?_
    refine am_e_iconst (v := nI 1) rfl rfl ?_
    refine am_e_iload rfl rfl ?_
    refine am_e_isub rfl (show nI 1 - nI 0 = nI 1 from by decide) ?_
    refine am_e_iload rfl rfl ?_
    refine am_e_iload_n rfl rfl ?_
    refine am_e_iload_n rfl rfl ?_
    refine am_e_iload_n rfl rfl ?_
    refine am_e_call rfl rfl (x_gain _ _ _ _ _ _ _) rfl ?_
    refine am_e_icmp_lt rfl (fun c_113 => ?_) (fun c_113 => ?_)
    · refine am_e_iconst (v := nI 0) rfl rfl ?_
      refine am_e_istore [some _, some _, some _, some _, some _, some _, some _, some _, some _, some _, some _] rfl (Nat.le_of_ble_eq_true rfl) rfl ?_
      refine am_e_iload rfl rfl ?_
      refine am_e_if_eq rfl (fun c_125 => ?_) (fun c_125 => absurd (show nI 0 = 0 from rfl) c_125)
      refine am_e_iinc [some _, some _, some _, some _, some _, some _, some _, some _, some _, some _, some _] rfl (c := nI 1) rfl rfl (Nat.le_of_ble_eq_true rfl) (nI_add _ _) rfl ?_
      refine am_e_goto rfl ?_
      have hs : ¬ rsB l t w 0 = true := by
        have e : rsB l t w 0 = false := by show (decide (¬ gnF (nI 0) (nI 0) l t w < gnF (nI 1) (nI 0) l t w) && decide (¬ gnF (nI 0) (nI 0) l t w < gnF (nI 1) (nI 0) l t w)) = false; rw [decide_eq_false (fun z => z c_81)]; rfl
        rw [e]; exact Bool.false_ne_true
      rw [if_neg hs] at K
      exact K (fun z => hs z.1) _ _ _ _
    · refine am_e_iconst (v := nI 1) rfl rfl ?_
      refine am_e_goto rfl ?_
      refine am_e_istore [some _, some _, some _, some _, some _, some _, some _, some _, some _, some _, some _] rfl (Nat.le_of_ble_eq_true rfl) rfl ?_
      refine am_e_iload rfl rfl ?_
      refine am_e_if_eq rfl (fun c_125 => ?_) (fun c_125 => absurd (show nI 0 = 0 from rfl) c_125)
      refine am_e_iinc [some _, some _, some _, some _, some _, some _, some _, some _, some _, some _, some _] rfl (c := nI 1) rfl rfl (Nat.le_of_ble_eq_true rfl) (nI_add _ _) rfl ?_
      refine am_e_goto rfl ?_
      have hs : ¬ rsB l t w 0 = true := by
        have e : rsB l t w 0 = false := by show (decide (¬ gnF (nI 0) (nI 0) l t w < gnF (nI 1) (nI 0) l t w) && decide (¬ gnF (nI 0) (nI 0) l t w < gnF (nI 1) (nI 0) l t w)) = false; rw [decide_eq_false (fun z => z c_81)]; rfl
        rw [e]; exact Bool.false_ne_true
      rw [if_neg hs] at K
      exact K (fun z => hs z.1) _ _ _ _
  · refine am_e_iconst (v := nI 1) rfl rfl ?_
    refine am_e_goto rfl ?_
    refine am_e_istore [some _, some _, some _, some _, some _, some _, some _, some _, some _, some _, _] rfl (Nat.le_of_ble_eq_true rfl) rfl ?_
    refine am_e_iload rfl rfl ?_
    refine am_e_iload rfl rfl ?_
    refine am_e_iload_n rfl rfl ?_
    refine am_e_iload_n rfl rfl ?_
    refine am_e_iload_n rfl rfl ?_
    refine am_e_call rfl rfl (x_gain _ _ _ _ _ _ _) rfl ?_
    refine am_e_iconst (v := nI 1) rfl rfl ?_
    refine am_e_iload rfl rfl ?_
    refine am_e_isub rfl (show nI 1 - nI 0 = nI 1 from by decide) ?_
    refine am_e_iload rfl rfl ?_
    refine am_e_iload_n rfl rfl ?_
    refine am_e_iload_n rfl rfl ?_
    refine am_e_iload_n rfl rfl ?_
    refine am_e_call rfl rfl (x_gain _ _ _ _ _ _ _) rfl ?_
    refine am_e_icmp_lt rfl (fun c_113 => ?_) (fun c_113 => ?_)
    · refine am_e_iconst (v := nI 0) rfl rfl ?_
      refine am_e_istore [some _, some _, some _, some _, some _, some _, some _, some _, some _, some _, some _] rfl (Nat.le_of_ble_eq_true rfl) rfl ?_
      refine am_e_iload rfl rfl ?_
      refine am_e_if_eq rfl (fun c_125 => absurd c_125 (by decide)) (fun c_125 => ?_)
      refine am_e_iload rfl rfl ?_
      refine am_e_if_eq rfl (fun c_130 => ?_) (fun c_130 => absurd (show nI 0 = 0 from rfl) c_130)
      refine am_e_iinc [some _, some _, some _, some _, some _, some _, some _, some _, some _, some _, some _] rfl (c := nI 1) rfl rfl (Nat.le_of_ble_eq_true rfl) (nI_add _ _) rfl ?_
      refine am_e_goto rfl ?_
      have hs : ¬ rsB l t w 0 = true := by
        have e : rsB l t w 0 = false := by show (decide (¬ gnF (nI 0) (nI 0) l t w < gnF (nI 1) (nI 0) l t w) && decide (¬ gnF (nI 0) (nI 0) l t w < gnF (nI 1) (nI 0) l t w)) = false; rw [decide_eq_false (p := ¬ gnF (nI 0) (nI 0) l t w < _) (fun z => z c_113), Bool.and_false]
        rw [e]; exact Bool.false_ne_true
      rw [if_neg hs] at K
      exact K (fun z => hs z.1) _ _ _ _
    · refine am_e_iconst (v := nI 1) rfl rfl ?_
      refine am_e_goto rfl ?_
      refine am_e_istore [some _, some _, some _, some _, some _, some _, some _, some _, some _, some _, some _] rfl (Nat.le_of_ble_eq_true rfl) rfl ?_
      refine am_e_iload rfl rfl ?_
      refine am_e_if_eq rfl (fun c_125 => absurd c_125 (by decide)) (fun c_125 => ?_)
      refine am_e_iload rfl rfl ?_
      refine am_e_if_eq rfl (fun c_130 => absurd c_130 (by decide)) (fun c_130 => ?_)
      refine am_e_iload rfl rfl ?_
      refine am_e_iload rfl rfl ?_
      refine am_e_icmp_ne rfl (fun c_137 => ?_) (fun c_137 => ?_)
      · refine am_e_iinc [some _, some _, some _, some _, some _, some _, some _, some _, some _, some _, some _] rfl (c := nI 1) rfl rfl (Nat.le_of_ble_eq_true rfl) (nI_add _ _) rfl ?_
        refine am_e_iinc [some _, some _, some _, some _, some _, some _, some _, some _, some _, some _, some _] rfl (c := nI 1) rfl rfl (Nat.le_of_ble_eq_true rfl) (nI_add _ _) rfl ?_
        refine am_e_goto rfl ?_
        have hs : rsB l t w 0 = true := by show (decide (¬ gnF (nI 0) (nI 0) l t w < gnF (nI 1) (nI 0) l t w) && decide (¬ gnF (nI 0) (nI 0) l t w < gnF (nI 1) (nI 0) l t w)) = true; rw [Bool.and_eq_true]; exact ⟨decide_eq_true c_81, decide_eq_true c_113⟩
        rw [if_pos hs] at K
        exact K (fun z => c_137 z.2) _ _ _ _
      · refine am_e_iload rfl rfl ?_
        have hs : rsB l t w 0 = true := by show (decide (¬ gnF (nI 0) (nI 0) l t w < gnF (nI 1) (nI 0) l t w) && decide (¬ gnF (nI 0) (nI 0) l t w < gnF (nI 1) (nI 0) l t w)) = true; rw [Bool.and_eq_true]; exact ⟨decide_eq_true c_81, decide_eq_true c_113⟩
        exact am_v0 (Kr hs c_137 _)

theorem rx_S1 (d n f : Nat) (hf : f < 2 ^ 20) (l t w wh : Int32) (x7 x8 x9 x10 : Option Value) {μ : am_M2} {ν : am_N2} (P : Nat → am_L → List Value → am_H → Prop) (Kr : rsB l t w 1 = true → nI f = wh → ∀ L, P 142 L [.int (nI 1)] (am_hp n μ ν)) (K : ¬ (rsB l t w 1 = true ∧ nI f = wh) → ∀ x7 x8 x9 x10, am_v (d + 1) (Option.some FieldType.int) am_gx 41 [some (.ref 2), some (.int l), some (.int t), some (.int w), some (.int wh), some (.int (nI (f + if rsB l t w 1 = true then 1 else 0))), some (.int (nI 2)), x7, x8, x9, x10] [] (am_hp n μ ν) P) : am_v (d + 1) (Option.some FieldType.int) am_gx 41 [some (.ref 2), some (.int l), some (.int t), some (.int w), some (.int wh), some (.int (nI f)), some (.int (nI 1)), x7, x8, x9, x10] [] (am_hp n μ ν) P := by
  refine am_e_iload rfl rfl ?_
  refine am_e_iconst (v := nI 4) rfl rfl ?_
  refine am_e_icmp_ge rfl (fun c_44 => absurd c_44 (by decide)) (fun c_44 => ?_)
  refine am_e_iload rfl rfl ?_
  refine am_e_iconst (v := nI 2) rfl rfl ?_
  refine am_e_idiv rfl (by decide) (show nI 1 / nI 2 = nI 0 from by decide) ?_
  refine am_e_istore [some _, some _, some _, some _, some _, some _, some _, some _, _, _, _] rfl (Nat.le_of_ble_eq_true rfl) rfl ?_
  refine am_e_iload rfl rfl ?_
  refine am_e_iconst (v := nI 2) rfl rfl ?_
  refine am_e_irem rfl (by decide) (show nI 1 - nI 1 / nI 2 * nI 2 = nI 1 from by decide) ?_
  refine am_e_istore [some _, some _, some _, some _, some _, some _, some _, some _, some _, _, _] rfl (Nat.le_of_ble_eq_true rfl) rfl ?_
  refine am_e_iload rfl rfl ?_
  refine am_e_iload rfl rfl ?_
  refine am_e_iload_n rfl rfl ?_
  refine am_e_iload_n rfl rfl ?_
  refine am_e_iload_n rfl rfl ?_
  refine am_e_call rfl rfl (x_gain _ _ _ _ _ _ _) rfl ?_
  refine am_e_iconst (v := nI 1) rfl rfl ?_
  refine am_e_iload rfl rfl ?_
  refine am_e_isub rfl (show nI 1 - nI 0 = nI 1 from by decide) ?_
  refine am_e_iload rfl rfl ?_
  refine am_e_iload_n rfl rfl ?_
  refine am_e_iload_n rfl rfl ?_
  refine am_e_iload_n rfl rfl ?_
  refine am_e_call rfl rfl (x_gain _ _ _ _ _ _ _) rfl ?_
  refine am_e_icmp_lt rfl (fun c_81 => ?_) (fun c_81 => ?_)
  · refine am_e_iconst (v := nI 0) rfl rfl ?_
    refine am_e_istore [some _, some _, some _, some _, some _, some _, some _, some _, some _, some _, _] rfl (Nat.le_of_ble_eq_true rfl) rfl ?_
    refine am_e_iload rfl rfl ?_
    refine am_e_iload rfl rfl ?_
    refine am_e_iload_n rfl rfl ?_
    refine am_e_iload_n rfl rfl ?_
    refine am_e_iload_n rfl rfl ?_
    refine am_e_call rfl rfl (x_gain _ _ _ _ _ _ _) rfl ?_
    refine am_e_iconst (v := nI 1) rfl rfl ?_
    refine am_e_iload rfl rfl ?_
    refine am_e_isub rfl (show nI 1 - nI 1 = nI 0 from by decide) ?_
    refine am_e_iload rfl rfl ?_
    refine am_e_iload_n rfl rfl ?_
    refine am_e_iload_n rfl rfl ?_
    refine am_e_iload_n rfl rfl ?_
    refine am_e_call rfl rfl (x_gain _ _ _ _ _ _ _) rfl ?_
    refine am_e_icmp_lt rfl (fun c_113 => ?_) (fun c_113 => ?_)
    · refine am_e_iconst (v := nI 0) rfl rfl ?_
      refine am_e_istore [some _, some _, some _, some _, some _, some _, some _, some _, some _, some _, some _] rfl (Nat.le_of_ble_eq_true rfl) rfl ?_
      refine am_e_iload rfl rfl ?_
      refine am_e_if_eq rfl (fun c_125 => ?_) (fun c_125 => absurd (show nI 0 = 0 from rfl) c_125)
      refine am_e_iinc [some _, some _, some _, some _, some _, some _, some _, some _, some _, some _, some _] rfl (c := nI 1) rfl rfl (Nat.le_of_ble_eq_true rfl) (nI_add _ _) rfl ?_
      refine am_e_goto rfl ?_
      have hs : ¬ rsB l t w 1 = true := by
        have e : rsB l t w 1 = false := by show (decide (¬ gnF (nI 0) (nI 1) l t w < gnF (nI 1) (nI 1) l t w) && decide (¬ gnF (nI 1) (nI 0) l t w < gnF (nI 0) (nI 0) l t w)) = false; rw [decide_eq_false (fun z => z c_81)]; rfl
        rw [e]; exact Bool.false_ne_true
      rw [if_neg hs] at K
      exact K (fun z => hs z.1) _ _ _ _
    · refine am_e_iconst (v := nI 1) rfl rfl ?_
      refine am_e_goto rfl ?_
      refine am_e_istore [some _, some _, some _, some _, some _, some _, some _, some _, some _, some _, some _] rfl (Nat.le_of_ble_eq_true rfl) rfl ?_
      refine am_e_iload rfl rfl ?_
      refine am_e_if_eq rfl (fun c_125 => ?_) (fun c_125 => absurd (show nI 0 = 0 from rfl) c_125)
      refine am_e_iinc [some _, some _, some _, some _, some _, some _, some _, some _, some _, some _, some _] rfl (c := nI 1) rfl rfl (Nat.le_of_ble_eq_true rfl) (nI_add _ _) rfl ?_
      refine am_e_goto rfl ?_
      have hs : ¬ rsB l t w 1 = true := by
        have e : rsB l t w 1 = false := by show (decide (¬ gnF (nI 0) (nI 1) l t w < gnF (nI 1) (nI 1) l t w) && decide (¬ gnF (nI 1) (nI 0) l t w < gnF (nI 0) (nI 0) l t w)) = false; rw [decide_eq_false (fun z => z c_81)]; rfl
        rw [e]; exact Bool.false_ne_true
      rw [if_neg hs] at K
      exact K (fun z => hs z.1) _ _ _ _
  · refine am_e_iconst (v := nI 1) rfl rfl ?_
    refine am_e_goto rfl ?_
    refine am_e_istore [some _, some _, some _, some _, some _, some _, some _, some _, some _, some _, _] rfl (Nat.le_of_ble_eq_true rfl) rfl ?_
    refine am_e_iload rfl rfl ?_
    refine am_e_iload rfl rfl ?_
    refine am_e_iload_n rfl rfl ?_
    refine am_e_iload_n rfl rfl ?_
    refine am_e_iload_n rfl rfl ?_
    refine am_e_call rfl rfl (x_gain _ _ _ _ _ _ _) rfl ?_
    refine am_e_iconst (v := nI 1) rfl rfl ?_
    refine am_e_iload rfl rfl ?_
    refine am_e_isub rfl (show nI 1 - nI 1 = nI 0 from by decide) ?_
    refine am_e_iload rfl rfl ?_
    refine am_e_iload_n rfl rfl ?_
    refine am_e_iload_n rfl rfl ?_
    refine am_e_iload_n rfl rfl ?_
    refine am_e_call rfl rfl (x_gain _ _ _ _ _ _ _) rfl ?_
    refine am_e_icmp_lt rfl (fun c_113 => ?_) (fun c_113 => ?_)
    · refine am_e_iconst (v := nI 0) rfl rfl ?_
      refine am_e_istore [some _, some _, some _, some _, some _, some _, some _, some _, some _, some _, some _] rfl (Nat.le_of_ble_eq_true rfl) rfl ?_
      refine am_e_iload rfl rfl ?_
      refine am_e_if_eq rfl (fun c_125 => absurd c_125 (by decide)) (fun c_125 => ?_)
      refine am_e_iload rfl rfl ?_
      refine am_e_if_eq rfl (fun c_130 => ?_) (fun c_130 => absurd (show nI 0 = 0 from rfl) c_130)
      refine am_e_iinc [some _, some _, some _, some _, some _, some _, some _, some _, some _, some _, some _] rfl (c := nI 1) rfl rfl (Nat.le_of_ble_eq_true rfl) (nI_add _ _) rfl ?_
      refine am_e_goto rfl ?_
      have hs : ¬ rsB l t w 1 = true := by
        have e : rsB l t w 1 = false := by show (decide (¬ gnF (nI 0) (nI 1) l t w < gnF (nI 1) (nI 1) l t w) && decide (¬ gnF (nI 1) (nI 0) l t w < gnF (nI 0) (nI 0) l t w)) = false; rw [decide_eq_false (p := ¬ gnF (nI 1) (nI 0) l t w < _) (fun z => z c_113), Bool.and_false]
        rw [e]; exact Bool.false_ne_true
      rw [if_neg hs] at K
      exact K (fun z => hs z.1) _ _ _ _
    · refine am_e_iconst (v := nI 1) rfl rfl ?_
      refine am_e_goto rfl ?_
      refine am_e_istore [some _, some _, some _, some _, some _, some _, some _, some _, some _, some _, some _] rfl (Nat.le_of_ble_eq_true rfl) rfl ?_
      refine am_e_iload rfl rfl ?_
      refine am_e_if_eq rfl (fun c_125 => absurd c_125 (by decide)) (fun c_125 => ?_)
      refine am_e_iload rfl rfl ?_
      refine am_e_if_eq rfl (fun c_130 => absurd c_130 (by decide)) (fun c_130 => ?_)
      refine am_e_iload rfl rfl ?_
      refine am_e_iload rfl rfl ?_
      refine am_e_icmp_ne rfl (fun c_137 => ?_) (fun c_137 => ?_)
      · refine am_e_iinc [some _, some _, some _, some _, some _, some _, some _, some _, some _, some _, some _] rfl (c := nI 1) rfl rfl (Nat.le_of_ble_eq_true rfl) (nI_add _ _) rfl ?_
        refine am_e_iinc [some _, some _, some _, some _, some _, some _, some _, some _, some _, some _, some _] rfl (c := nI 1) rfl rfl (Nat.le_of_ble_eq_true rfl) (nI_add _ _) rfl ?_
        refine am_e_goto rfl ?_
        have hs : rsB l t w 1 = true := by show (decide (¬ gnF (nI 0) (nI 1) l t w < gnF (nI 1) (nI 1) l t w) && decide (¬ gnF (nI 1) (nI 0) l t w < gnF (nI 0) (nI 0) l t w)) = true; rw [Bool.and_eq_true]; exact ⟨decide_eq_true c_81, decide_eq_true c_113⟩
        rw [if_pos hs] at K
        exact K (fun z => c_137 z.2) _ _ _ _
      · refine am_e_iload rfl rfl ?_
        have hs : rsB l t w 1 = true := by show (decide (¬ gnF (nI 0) (nI 1) l t w < gnF (nI 1) (nI 1) l t w) && decide (¬ gnF (nI 1) (nI 0) l t w < gnF (nI 0) (nI 0) l t w)) = true; rw [Bool.and_eq_true]; exact ⟨decide_eq_true c_81, decide_eq_true c_113⟩
        exact am_v0 (Kr hs c_137 _)

theorem rx_S2 (d n f : Nat) (hf : f < 2 ^ 20) (l t w wh : Int32) (x7 x8 x9 x10 : Option Value) {μ : am_M2} {ν : am_N2} (P : Nat → am_L → List Value → am_H → Prop) (Kr : rsB l t w 2 = true → nI f = wh → ∀ L, P 142 L [.int (nI 2)] (am_hp n μ ν)) (K : ¬ (rsB l t w 2 = true ∧ nI f = wh) → ∀ x7 x8 x9 x10, am_v (d + 1) (Option.some FieldType.int) am_gx 41 [some (.ref 2), some (.int l), some (.int t), some (.int w), some (.int wh), some (.int (nI (f + if rsB l t w 2 = true then 1 else 0))), some (.int (nI 3)), x7, x8, x9, x10] [] (am_hp n μ ν) P) : am_v (d + 1) (Option.some FieldType.int) am_gx 41 [some (.ref 2), some (.int l), some (.int t), some (.int w), some (.int wh), some (.int (nI f)), some (.int (nI 2)), x7, x8, x9, x10] [] (am_hp n μ ν) P := by
  refine am_e_iload rfl rfl ?_
  refine am_e_iconst (v := nI 4) rfl rfl ?_
  refine am_e_icmp_ge rfl (fun c_44 => absurd c_44 (by decide)) (fun c_44 => ?_)
  refine am_e_iload rfl rfl ?_
  refine am_e_iconst (v := nI 2) rfl rfl ?_
  refine am_e_idiv rfl (by decide) (show nI 2 / nI 2 = nI 1 from by decide) ?_
  refine am_e_istore [some _, some _, some _, some _, some _, some _, some _, some _, _, _, _] rfl (Nat.le_of_ble_eq_true rfl) rfl ?_
  refine am_e_iload rfl rfl ?_
  refine am_e_iconst (v := nI 2) rfl rfl ?_
  refine am_e_irem rfl (by decide) (show nI 2 - nI 2 / nI 2 * nI 2 = nI 0 from by decide) ?_
  refine am_e_istore [some _, some _, some _, some _, some _, some _, some _, some _, some _, _, _] rfl (Nat.le_of_ble_eq_true rfl) rfl ?_
  refine am_e_iload rfl rfl ?_
  refine am_e_iload rfl rfl ?_
  refine am_e_iload_n rfl rfl ?_
  refine am_e_iload_n rfl rfl ?_
  refine am_e_iload_n rfl rfl ?_
  refine am_e_call rfl rfl (x_gain _ _ _ _ _ _ _) rfl ?_
  refine am_e_iconst (v := nI 1) rfl rfl ?_
  refine am_e_iload rfl rfl ?_
  refine am_e_isub rfl (show nI 1 - nI 1 = nI 0 from by decide) ?_
  refine am_e_iload rfl rfl ?_
  refine am_e_iload_n rfl rfl ?_
  refine am_e_iload_n rfl rfl ?_
  refine am_e_iload_n rfl rfl ?_
  refine am_e_call rfl rfl (x_gain _ _ _ _ _ _ _) rfl ?_
  refine am_e_icmp_lt rfl (fun c_81 => ?_) (fun c_81 => ?_)
  · refine am_e_iconst (v := nI 0) rfl rfl ?_
    refine am_e_istore [some _, some _, some _, some _, some _, some _, some _, some _, some _, some _, _] rfl (Nat.le_of_ble_eq_true rfl) rfl ?_
    refine am_e_iload rfl rfl ?_
    refine am_e_iload rfl rfl ?_
    refine am_e_iload_n rfl rfl ?_
    refine am_e_iload_n rfl rfl ?_
    refine am_e_iload_n rfl rfl ?_
    refine am_e_call rfl rfl (x_gain _ _ _ _ _ _ _) rfl ?_
    refine am_e_iconst (v := nI 1) rfl rfl ?_
    refine am_e_iload rfl rfl ?_
    refine am_e_isub rfl (show nI 1 - nI 0 = nI 1 from by decide) ?_
    refine am_e_iload rfl rfl ?_
    refine am_e_iload_n rfl rfl ?_
    refine am_e_iload_n rfl rfl ?_
    refine am_e_iload_n rfl rfl ?_
    refine am_e_call rfl rfl (x_gain _ _ _ _ _ _ _) rfl ?_
    refine am_e_icmp_lt rfl (fun c_113 => ?_) (fun c_113 => ?_)
    · refine am_e_iconst (v := nI 0) rfl rfl ?_
      refine am_e_istore [some _, some _, some _, some _, some _, some _, some _, some _, some _, some _, some _] rfl (Nat.le_of_ble_eq_true rfl) rfl ?_
      refine am_e_iload rfl rfl ?_
      refine am_e_if_eq rfl (fun c_125 => ?_) (fun c_125 => absurd (show nI 0 = 0 from rfl) c_125)
      refine am_e_iinc [some _, some _, some _, some _, some _, some _, some _, some _, some _, some _, some _] rfl (c := nI 1) rfl rfl (Nat.le_of_ble_eq_true rfl) (nI_add _ _) rfl ?_
      refine am_e_goto rfl ?_
      have hs : ¬ rsB l t w 2 = true := by
        have e : rsB l t w 2 = false := by show (decide (¬ gnF (nI 1) (nI 0) l t w < gnF (nI 0) (nI 0) l t w) && decide (¬ gnF (nI 0) (nI 1) l t w < gnF (nI 1) (nI 1) l t w)) = false; rw [decide_eq_false (fun z => z c_81)]; rfl
        rw [e]; exact Bool.false_ne_true
      rw [if_neg hs] at K
      exact K (fun z => hs z.1) _ _ _ _
    · refine am_e_iconst (v := nI 1) rfl rfl ?_
      refine am_e_goto rfl ?_
      refine am_e_istore [some _, some _, some _, some _, some _, some _, some _, some _, some _, some _, some _] rfl (Nat.le_of_ble_eq_true rfl) rfl ?_
      refine am_e_iload rfl rfl ?_
      refine am_e_if_eq rfl (fun c_125 => ?_) (fun c_125 => absurd (show nI 0 = 0 from rfl) c_125)
      refine am_e_iinc [some _, some _, some _, some _, some _, some _, some _, some _, some _, some _, some _] rfl (c := nI 1) rfl rfl (Nat.le_of_ble_eq_true rfl) (nI_add _ _) rfl ?_
      refine am_e_goto rfl ?_
      have hs : ¬ rsB l t w 2 = true := by
        have e : rsB l t w 2 = false := by show (decide (¬ gnF (nI 1) (nI 0) l t w < gnF (nI 0) (nI 0) l t w) && decide (¬ gnF (nI 0) (nI 1) l t w < gnF (nI 1) (nI 1) l t w)) = false; rw [decide_eq_false (fun z => z c_81)]; rfl
        rw [e]; exact Bool.false_ne_true
      rw [if_neg hs] at K
      exact K (fun z => hs z.1) _ _ _ _
  · refine am_e_iconst (v := nI 1) rfl rfl ?_
    refine am_e_goto rfl ?_
    refine am_e_istore [some _, some _, some _, some _, some _, some _, some _, some _, some _, some _, _] rfl (Nat.le_of_ble_eq_true rfl) rfl ?_
    refine am_e_iload rfl rfl ?_
    refine am_e_iload rfl rfl ?_
    refine am_e_iload_n rfl rfl ?_
    refine am_e_iload_n rfl rfl ?_
    refine am_e_iload_n rfl rfl ?_
    refine am_e_call rfl rfl (x_gain _ _ _ _ _ _ _) rfl ?_
    refine am_e_iconst (v := nI 1) rfl rfl ?_
    refine am_e_iload rfl rfl ?_
    refine am_e_isub rfl (show nI 1 - nI 0 = nI 1 from by decide) ?_
    refine am_e_iload rfl rfl ?_
    refine am_e_iload_n rfl rfl ?_
    refine am_e_iload_n rfl rfl ?_
    refine am_e_iload_n rfl rfl ?_
    refine am_e_call rfl rfl (x_gain _ _ _ _ _ _ _) rfl ?_
    refine am_e_icmp_lt rfl (fun c_113 => ?_) (fun c_113 => ?_)
    · refine am_e_iconst (v := nI 0) rfl rfl ?_
      refine am_e_istore [some _, some _, some _, some _, some _, some _, some _, some _, some _, some _, some _] rfl (Nat.le_of_ble_eq_true rfl) rfl ?_
      refine am_e_iload rfl rfl ?_
      refine am_e_if_eq rfl (fun c_125 => absurd c_125 (by decide)) (fun c_125 => ?_)
      refine am_e_iload rfl rfl ?_
      refine am_e_if_eq rfl (fun c_130 => ?_) (fun c_130 => absurd (show nI 0 = 0 from rfl) c_130)
      refine am_e_iinc [some _, some _, some _, some _, some _, some _, some _, some _, some _, some _, some _] rfl (c := nI 1) rfl rfl (Nat.le_of_ble_eq_true rfl) (nI_add _ _) rfl ?_
      refine am_e_goto rfl ?_
      have hs : ¬ rsB l t w 2 = true := by
        have e : rsB l t w 2 = false := by show (decide (¬ gnF (nI 1) (nI 0) l t w < gnF (nI 0) (nI 0) l t w) && decide (¬ gnF (nI 0) (nI 1) l t w < gnF (nI 1) (nI 1) l t w)) = false; rw [decide_eq_false (p := ¬ gnF (nI 0) (nI 1) l t w < _) (fun z => z c_113), Bool.and_false]
        rw [e]; exact Bool.false_ne_true
      rw [if_neg hs] at K
      exact K (fun z => hs z.1) _ _ _ _
    · refine am_e_iconst (v := nI 1) rfl rfl ?_
      refine am_e_goto rfl ?_
      refine am_e_istore [some _, some _, some _, some _, some _, some _, some _, some _, some _, some _, some _] rfl (Nat.le_of_ble_eq_true rfl) rfl ?_
      refine am_e_iload rfl rfl ?_
      refine am_e_if_eq rfl (fun c_125 => absurd c_125 (by decide)) (fun c_125 => ?_)
      refine am_e_iload rfl rfl ?_
      refine am_e_if_eq rfl (fun c_130 => absurd c_130 (by decide)) (fun c_130 => ?_)
      refine am_e_iload rfl rfl ?_
      refine am_e_iload rfl rfl ?_
      refine am_e_icmp_ne rfl (fun c_137 => ?_) (fun c_137 => ?_)
      · refine am_e_iinc [some _, some _, some _, some _, some _, some _, some _, some _, some _, some _, some _] rfl (c := nI 1) rfl rfl (Nat.le_of_ble_eq_true rfl) (nI_add _ _) rfl ?_
        refine am_e_iinc [some _, some _, some _, some _, some _, some _, some _, some _, some _, some _, some _] rfl (c := nI 1) rfl rfl (Nat.le_of_ble_eq_true rfl) (nI_add _ _) rfl ?_
        refine am_e_goto rfl ?_
        have hs : rsB l t w 2 = true := by show (decide (¬ gnF (nI 1) (nI 0) l t w < gnF (nI 0) (nI 0) l t w) && decide (¬ gnF (nI 0) (nI 1) l t w < gnF (nI 1) (nI 1) l t w)) = true; rw [Bool.and_eq_true]; exact ⟨decide_eq_true c_81, decide_eq_true c_113⟩
        rw [if_pos hs] at K
        exact K (fun z => c_137 z.2) _ _ _ _
      · refine am_e_iload rfl rfl ?_
        have hs : rsB l t w 2 = true := by show (decide (¬ gnF (nI 1) (nI 0) l t w < gnF (nI 0) (nI 0) l t w) && decide (¬ gnF (nI 0) (nI 1) l t w < gnF (nI 1) (nI 1) l t w)) = true; rw [Bool.and_eq_true]; exact ⟨decide_eq_true c_81, decide_eq_true c_113⟩
        exact am_v0 (Kr hs c_137 _)

theorem rx_S3 (d n f : Nat) (hf : f < 2 ^ 20) (l t w wh : Int32) (x7 x8 x9 x10 : Option Value) {μ : am_M2} {ν : am_N2} (P : Nat → am_L → List Value → am_H → Prop) (Kr : rsB l t w 3 = true → nI f = wh → ∀ L, P 142 L [.int (nI 3)] (am_hp n μ ν)) (K : ¬ (rsB l t w 3 = true ∧ nI f = wh) → ∀ x7 x8 x9 x10, am_v (d + 1) (Option.some FieldType.int) am_gx 41 [some (.ref 2), some (.int l), some (.int t), some (.int w), some (.int wh), some (.int (nI (f + if rsB l t w 3 = true then 1 else 0))), some (.int (nI 4)), x7, x8, x9, x10] [] (am_hp n μ ν) P) : am_v (d + 1) (Option.some FieldType.int) am_gx 41 [some (.ref 2), some (.int l), some (.int t), some (.int w), some (.int wh), some (.int (nI f)), some (.int (nI 3)), x7, x8, x9, x10] [] (am_hp n μ ν) P := by
  refine am_e_iload rfl rfl ?_
  refine am_e_iconst (v := nI 4) rfl rfl ?_
  refine am_e_icmp_ge rfl (fun c_44 => absurd c_44 (by decide)) (fun c_44 => ?_)
  refine am_e_iload rfl rfl ?_
  refine am_e_iconst (v := nI 2) rfl rfl ?_
  refine am_e_idiv rfl (by decide) (show nI 3 / nI 2 = nI 1 from by decide) ?_
  refine am_e_istore [some _, some _, some _, some _, some _, some _, some _, some _, _, _, _] rfl (Nat.le_of_ble_eq_true rfl) rfl ?_
  refine am_e_iload rfl rfl ?_
  refine am_e_iconst (v := nI 2) rfl rfl ?_
  refine am_e_irem rfl (by decide) (show nI 3 - nI 3 / nI 2 * nI 2 = nI 1 from by decide) ?_
  refine am_e_istore [some _, some _, some _, some _, some _, some _, some _, some _, some _, _, _] rfl (Nat.le_of_ble_eq_true rfl) rfl ?_
  refine am_e_iload rfl rfl ?_
  refine am_e_iload rfl rfl ?_
  refine am_e_iload_n rfl rfl ?_
  refine am_e_iload_n rfl rfl ?_
  refine am_e_iload_n rfl rfl ?_
  refine am_e_call rfl rfl (x_gain _ _ _ _ _ _ _) rfl ?_
  refine am_e_iconst (v := nI 1) rfl rfl ?_
  refine am_e_iload rfl rfl ?_
  refine am_e_isub rfl (show nI 1 - nI 1 = nI 0 from by decide) ?_
  refine am_e_iload rfl rfl ?_
  refine am_e_iload_n rfl rfl ?_
  refine am_e_iload_n rfl rfl ?_
  refine am_e_iload_n rfl rfl ?_
  refine am_e_call rfl rfl (x_gain _ _ _ _ _ _ _) rfl ?_
  refine am_e_icmp_lt rfl (fun c_81 => ?_) (fun c_81 => ?_)
  · refine am_e_iconst (v := nI 0) rfl rfl ?_
    refine am_e_istore [some _, some _, some _, some _, some _, some _, some _, some _, some _, some _, _] rfl (Nat.le_of_ble_eq_true rfl) rfl ?_
    refine am_e_iload rfl rfl ?_
    refine am_e_iload rfl rfl ?_
    refine am_e_iload_n rfl rfl ?_
    refine am_e_iload_n rfl rfl ?_
    refine am_e_iload_n rfl rfl ?_
    refine am_e_call rfl rfl (x_gain _ _ _ _ _ _ _) rfl ?_
    refine am_e_iconst (v := nI 1) rfl rfl ?_
    refine am_e_iload rfl rfl ?_
    refine am_e_isub rfl (show nI 1 - nI 1 = nI 0 from by decide) ?_
    refine am_e_iload rfl rfl ?_
    refine am_e_iload_n rfl rfl ?_
    refine am_e_iload_n rfl rfl ?_
    refine am_e_iload_n rfl rfl ?_
    refine am_e_call rfl rfl (x_gain _ _ _ _ _ _ _) rfl ?_
    refine am_e_icmp_lt rfl (fun c_113 => ?_) (fun c_113 => ?_)
    · refine am_e_iconst (v := nI 0) rfl rfl ?_
      refine am_e_istore [some _, some _, some _, some _, some _, some _, some _, some _, some _, some _, some _] rfl (Nat.le_of_ble_eq_true rfl) rfl ?_
      refine am_e_iload rfl rfl ?_
      refine am_e_if_eq rfl (fun c_125 => ?_) (fun c_125 => absurd (show nI 0 = 0 from rfl) c_125)
      refine am_e_iinc [some _, some _, some _, some _, some _, some _, some _, some _, some _, some _, some _] rfl (c := nI 1) rfl rfl (Nat.le_of_ble_eq_true rfl) (nI_add _ _) rfl ?_
      refine am_e_goto rfl ?_
      have hs : ¬ rsB l t w 3 = true := by
        have e : rsB l t w 3 = false := by show (decide (¬ gnF (nI 1) (nI 1) l t w < gnF (nI 0) (nI 1) l t w) && decide (¬ gnF (nI 1) (nI 1) l t w < gnF (nI 0) (nI 1) l t w)) = false; rw [decide_eq_false (fun z => z c_81)]; rfl
        rw [e]; exact Bool.false_ne_true
      rw [if_neg hs] at K
      exact K (fun z => hs z.1) _ _ _ _
    · refine am_e_iconst (v := nI 1) rfl rfl ?_
      refine am_e_goto rfl ?_
      refine am_e_istore [some _, some _, some _, some _, some _, some _, some _, some _, some _, some _, some _] rfl (Nat.le_of_ble_eq_true rfl) rfl ?_
      refine am_e_iload rfl rfl ?_
      refine am_e_if_eq rfl (fun c_125 => ?_) (fun c_125 => absurd (show nI 0 = 0 from rfl) c_125)
      refine am_e_iinc [some _, some _, some _, some _, some _, some _, some _, some _, some _, some _, some _] rfl (c := nI 1) rfl rfl (Nat.le_of_ble_eq_true rfl) (nI_add _ _) rfl ?_
      refine am_e_goto rfl ?_
      have hs : ¬ rsB l t w 3 = true := by
        have e : rsB l t w 3 = false := by show (decide (¬ gnF (nI 1) (nI 1) l t w < gnF (nI 0) (nI 1) l t w) && decide (¬ gnF (nI 1) (nI 1) l t w < gnF (nI 0) (nI 1) l t w)) = false; rw [decide_eq_false (fun z => z c_81)]; rfl
        rw [e]; exact Bool.false_ne_true
      rw [if_neg hs] at K
      exact K (fun z => hs z.1) _ _ _ _
  · refine am_e_iconst (v := nI 1) rfl rfl ?_
    refine am_e_goto rfl ?_
    refine am_e_istore [some _, some _, some _, some _, some _, some _, some _, some _, some _, some _, _] rfl (Nat.le_of_ble_eq_true rfl) rfl ?_
    refine am_e_iload rfl rfl ?_
    refine am_e_iload rfl rfl ?_
    refine am_e_iload_n rfl rfl ?_
    refine am_e_iload_n rfl rfl ?_
    refine am_e_iload_n rfl rfl ?_
    refine am_e_call rfl rfl (x_gain _ _ _ _ _ _ _) rfl ?_
    refine am_e_iconst (v := nI 1) rfl rfl ?_
    refine am_e_iload rfl rfl ?_
    refine am_e_isub rfl (show nI 1 - nI 1 = nI 0 from by decide) ?_
    refine am_e_iload rfl rfl ?_
    refine am_e_iload_n rfl rfl ?_
    refine am_e_iload_n rfl rfl ?_
    refine am_e_iload_n rfl rfl ?_
    refine am_e_call rfl rfl (x_gain _ _ _ _ _ _ _) rfl ?_
    refine am_e_icmp_lt rfl (fun c_113 => ?_) (fun c_113 => ?_)
    · refine am_e_iconst (v := nI 0) rfl rfl ?_
      refine am_e_istore [some _, some _, some _, some _, some _, some _, some _, some _, some _, some _, some _] rfl (Nat.le_of_ble_eq_true rfl) rfl ?_
      refine am_e_iload rfl rfl ?_
      refine am_e_if_eq rfl (fun c_125 => absurd c_125 (by decide)) (fun c_125 => ?_)
      refine am_e_iload rfl rfl ?_
      refine am_e_if_eq rfl (fun c_130 => ?_) (fun c_130 => absurd (show nI 0 = 0 from rfl) c_130)
      refine am_e_iinc [some _, some _, some _, some _, some _, some _, some _, some _, some _, some _, some _] rfl (c := nI 1) rfl rfl (Nat.le_of_ble_eq_true rfl) (nI_add _ _) rfl ?_
      refine am_e_goto rfl ?_
      have hs : ¬ rsB l t w 3 = true := by
        have e : rsB l t w 3 = false := by show (decide (¬ gnF (nI 1) (nI 1) l t w < gnF (nI 0) (nI 1) l t w) && decide (¬ gnF (nI 1) (nI 1) l t w < gnF (nI 0) (nI 1) l t w)) = false; rw [decide_eq_false (p := ¬ gnF (nI 1) (nI 1) l t w < _) (fun z => z c_113), Bool.and_false]
        rw [e]; exact Bool.false_ne_true
      rw [if_neg hs] at K
      exact K (fun z => hs z.1) _ _ _ _
    · refine am_e_iconst (v := nI 1) rfl rfl ?_
      refine am_e_goto rfl ?_
      refine am_e_istore [some _, some _, some _, some _, some _, some _, some _, some _, some _, some _, some _] rfl (Nat.le_of_ble_eq_true rfl) rfl ?_
      refine am_e_iload rfl rfl ?_
      refine am_e_if_eq rfl (fun c_125 => absurd c_125 (by decide)) (fun c_125 => ?_)
      refine am_e_iload rfl rfl ?_
      refine am_e_if_eq rfl (fun c_130 => absurd c_130 (by decide)) (fun c_130 => ?_)
      refine am_e_iload rfl rfl ?_
      refine am_e_iload rfl rfl ?_
      refine am_e_icmp_ne rfl (fun c_137 => ?_) (fun c_137 => ?_)
      · refine am_e_iinc [some _, some _, some _, some _, some _, some _, some _, some _, some _, some _, some _] rfl (c := nI 1) rfl rfl (Nat.le_of_ble_eq_true rfl) (nI_add _ _) rfl ?_
        refine am_e_iinc [some _, some _, some _, some _, some _, some _, some _, some _, some _, some _, some _] rfl (c := nI 1) rfl rfl (Nat.le_of_ble_eq_true rfl) (nI_add _ _) rfl ?_
        refine am_e_goto rfl ?_
        have hs : rsB l t w 3 = true := by show (decide (¬ gnF (nI 1) (nI 1) l t w < gnF (nI 0) (nI 1) l t w) && decide (¬ gnF (nI 1) (nI 1) l t w < gnF (nI 0) (nI 1) l t w)) = true; rw [Bool.and_eq_true]; exact ⟨decide_eq_true c_81, decide_eq_true c_113⟩
        rw [if_pos hs] at K
        exact K (fun z => c_137 z.2) _ _ _ _
      · refine am_e_iload rfl rfl ?_
        have hs : rsB l t w 3 = true := by show (decide (¬ gnF (nI 1) (nI 1) l t w < gnF (nI 0) (nI 1) l t w) && decide (¬ gnF (nI 1) (nI 1) l t w < gnF (nI 0) (nI 1) l t w)) = true; rw [Bool.and_eq_true]; exact ⟨decide_eq_true c_81, decide_eq_true c_113⟩
        exact am_v0 (Kr hs c_137 _)

def rsP (l t w wh : Int32) (n : Nat) (μ : am_M2) (ν : am_N2) (a : Nat) (_ : am_L) (c : List Value) (e : am_H) : Prop := e = am_hp n μ ν ∧ ((∃ r, rsQ l t w wh = some r ∧ (a = 142 ∨ a = 168) ∧ c = [.int r]) ∨ (rsQ l t w wh = none ∧ (a = 27 ∨ a = 158) ∧ c = []))
theorem wh_m1 {wh : Int32} (h1 : ¬ wh < -1) (h2 : wh < 0) : wh = -1 := by
  have a := Int32.lt_iff_toInt_lt.mp h2
  have b : ¬ wh.toInt < (-1 : Int32).toInt := fun z => h1 (Int32.lt_iff_toInt_lt.mpr z)
  have c : (0 : Int32).toInt = 0 := by decide
  have e : (-1 : Int32).toInt = -1 := by decide
  apply Int32.toInt_inj.mp
  omega
theorem nI_n4 : ∀ f, f ≤ 4 → ¬ nI f < 0 := by decide
theorem rsQ_hit {l t w wh : Int32} (hv : rsOk l t w wh = true) {k : Nat} (hk : k < 4) (h1 : rsB l t w k = true) (h2 : nI (rsN (rsB l t w) k) = wh) : rsQ l t w wh = some (nI k) := by
  have hl := rsN_le (rsB l t w) k
  have e := rsI_hit h1 h2 4 hk (Nat.le_refl _)
  rw [rsQ, if_pos hv, if_neg (by rw [← h2]; exact nI_n4 _ (by omega)), e, if_neg (nI_n4 k (by omega))]
theorem rsQ_no {l t w wh : Int32} (hv : rsOk l t w wh = true) (h : ∀ k, k < 4 → ¬ (rsB l t w k = true ∧ nI (rsN (rsB l t w) k) = wh)) : rsQ l t w wh = if wh < 0 then some (nI (rsN (rsB l t w) 4)) else none := by
  rw [rsQ, if_pos hv, rsI_no 4 h, if_pos (show (-1 : Int32) < 0 by decide)]
theorem rx_E (d n : Nat) (l t w wh : Int32) (x7 x8 x9 x10 : Option Value) {μ : am_M2} {ν : am_N2} (hv : rsOk l t w wh = true) (hm : ¬ wh < -1) (hq : rsQ l t w wh = if wh < 0 then some (nI (rsN (rsB l t w) 4)) else none) : am_v (d + 1) (Option.some FieldType.int) am_gx 41 [some (.ref 2), some (.int l), some (.int t), some (.int w), some (.int wh), some (.int (nI (rsN (rsB l t w) 4))), some (.int (nI 4)), x7, x8, x9, x10] [] (am_hp n μ ν) (rsP l t w wh n μ ν) := by
  refine am_e_iload rfl rfl ?_
  refine am_e_iconst (v := nI 4) rfl rfl ?_
  refine am_e_icmp_ge rfl (fun c_44 => ?_) (fun c_44 => absurd (show nI 4 ≤ nI 4 from by decide) c_44)
  refine am_e_iload rfl rfl ?_
  refine am_e_iconst (v := -1) rfl rfl ?_
  refine am_e_icmp_eq rfl (fun c_155 => ?_) (fun c_155 => ?_)
  · refine am_e_iload rfl rfl ?_
    exact am_v0 ⟨rfl, Or.inl ⟨_, hq.trans (if_pos (by rw [c_155]; decide)), Or.inr rfl, rfl⟩⟩
  · exact am_v0 ⟨rfl, Or.inr ⟨hq.trans (if_neg (fun z => c_155 (wh_m1 hm z))), Or.inr rfl, rfl⟩⟩

theorem rx_W (d n : Nat) (l t w wh : Int32) {μ : am_M2} {ν : am_N2} : am_v (d + 1) (Option.some FieldType.int) am_gx 0 [some (.ref 2), some (.int l), some (.int t), some (.int w), some (.int wh), none, none, none, none, none, none] [] (am_hp n μ ν) (rsP l t w wh n μ ν) := by
  refine am_e_iload_n rfl rfl ?_
  refine am_e_call rfl rfl (x_isDigit _ _ _) rfl ?_
  refine am_e_if_eqB rfl (fun c_4 => ?_) (fun c_4 => ?_)
  · exact am_v0 ⟨rfl, Or.inr ⟨by rw [rsQ, if_neg]; show ¬ (rIn l 0 9 && rIn t 0 9 && rIn w 0 9 && decide (¬ wh < -1)) = true; rw [c_4]; exact Bool.false_ne_true, Or.inl rfl, rfl⟩⟩
  · refine am_e_iload_n rfl rfl ?_
    refine am_e_call rfl rfl (x_isDigit _ _ _) rfl ?_
    refine am_e_if_eqB rfl (fun c_11 => ?_) (fun c_11 => ?_)
    · exact am_v0 ⟨rfl, Or.inr ⟨by rw [rsQ, if_neg]; show ¬ (rIn l 0 9 && rIn t 0 9 && rIn w 0 9 && decide (¬ wh < -1)) = true; rw [c_4, c_11]; exact Bool.false_ne_true, Or.inl rfl, rfl⟩⟩
    · refine am_e_iload_n rfl rfl ?_
      refine am_e_call rfl rfl (x_isDigit _ _ _) rfl ?_
      refine am_e_if_eqB rfl (fun c_18 => ?_) (fun c_18 => ?_)
      · exact am_v0 ⟨rfl, Or.inr ⟨by rw [rsQ, if_neg]; show ¬ (rIn l 0 9 && rIn t 0 9 && rIn w 0 9 && decide (¬ wh < -1)) = true; rw [c_4, c_11, c_18]; exact Bool.false_ne_true, Or.inl rfl, rfl⟩⟩
      · refine am_e_iload rfl rfl ?_
        refine am_e_iconst (v := -1) rfl rfl ?_
        refine am_e_icmp_ge rfl (fun c_24 => ?_) (fun c_24 => ?_)
        · refine am_e_iconst (v := nI 0) rfl rfl ?_
          refine am_e_istore [some _, some _, some _, some _, some _, some _, none, none, none, none, none] rfl (Nat.le_of_ble_eq_true rfl) rfl ?_
          refine am_e_iconst (v := nI 0) rfl rfl ?_
          refine am_e_istore [some _, some _, some _, some _, some _, some _, some _, none, none, none, none] rfl (Nat.le_of_ble_eq_true rfl) rfl ?_
          have hm : ¬ wh < -1 := Int32.not_lt.mpr c_24
          have hv : rsOk l t w wh = true := by show (rIn l 0 9 && rIn t 0 9 && rIn w 0 9 && decide (¬ wh < -1)) = true; rw [c_4, c_11, c_18, decide_eq_true hm]; rfl
          have hb : ∀ k, k ≤ 4 → rsN (rsB l t w) k < 2 ^ 20 := fun k hk => Nat.lt_of_le_of_lt (rsN_le _ k) (by omega)
          refine rx_S0 d n (rsN (rsB l t w) 0) (hb 0 (by decide)) l t w wh none none none none _ (fun h1 h2 L => ⟨rfl, Or.inl ⟨_, rsQ_hit (k := 0) hv (by decide) h1 h2, Or.inl rfl, rfl⟩⟩) (fun k0 a1 b1 e1 g1 => ?_)
          refine rx_S1 d n (rsN (rsB l t w) 1) (hb 1 (by decide)) l t w wh a1 b1 e1 g1 _ (fun h1 h2 L => ⟨rfl, Or.inl ⟨_, rsQ_hit (k := 1) hv (by decide) h1 h2, Or.inl rfl, rfl⟩⟩) (fun k1 a2 b2 e2 g2 => ?_)
          refine rx_S2 d n (rsN (rsB l t w) 2) (hb 2 (by decide)) l t w wh a2 b2 e2 g2 _ (fun h1 h2 L => ⟨rfl, Or.inl ⟨_, rsQ_hit (k := 2) hv (by decide) h1 h2, Or.inl rfl, rfl⟩⟩) (fun k2 a3 b3 e3 g3 => ?_)
          refine rx_S3 d n (rsN (rsB l t w) 3) (hb 3 (by decide)) l t w wh a3 b3 e3 g3 _ (fun h1 h2 L => ⟨rfl, Or.inl ⟨_, rsQ_hit (k := 3) hv (by decide) h1 h2, Or.inl rfl, rfl⟩⟩) (fun k3 a4 b4 e4 g4 => ?_)
          exact rx_E d n l t w wh a4 b4 e4 g4 hv hm (rsQ_no hv (fun k hk => by rcases (show k = 0 ∨ k = 1 ∨ k = 2 ∨ k = 3 by omega) with rfl | rfl | rfl | rfl <;> assumption))
        · exact am_v0 ⟨rfl, Or.inr ⟨by rw [rsQ, if_neg]; show ¬ (rIn l 0 9 && rIn t 0 9 && rIn w 0 9 && decide (¬ wh < -1)) = true; rw [decide_eq_false (fun z => z (Int32.not_le.mp c_24)), Bool.and_false]; exact Bool.false_ne_true, Or.inl rfl, rfl⟩⟩
