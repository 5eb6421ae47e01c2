/-! ===== rests: what both find ===== -/
def gnF (a c l t w : Int32) : Int32 := if a = nI 1 then (if c = nI 1 then -l else t) else (if c = nI 1 then w else nI 0)
def rsB (l t w : Int32) (k : Nat) : Bool := decide (¬ gnF (nI (k / 2)) (nI (k % 2)) l t w < gnF (nI (1 - k / 2)) (nI (k % 2)) l t w) && decide (¬ gnF (nI (k % 2)) (nI (k / 2)) l t w < gnF (nI (1 - k % 2)) (nI (k / 2)) l t w)
def rsN (st : Nat → Bool) : Nat → Nat
  | 0 => 0
  | k + 1 => rsN st k + if st k = true then 1 else 0
def rsI (st : Nat → Bool) (wh : Int32) : Nat → Int32
  | 0 => -1
  | k + 1 => if st k = true ∧ nI (rsN st k) = wh then nI k else rsI st wh k
def rsOk (l t w wh : Int32) : Bool := rIn l 0 9 && rIn t 0 9 && rIn w 0 9 && decide (¬ wh < -1)
def rsQ (l t w wh : Int32) : Option Int32 := if rsOk l t w wh = true then (if wh < 0 then some (nI (rsN (rsB l t w) 4)) else if rsI (rsB l t w) wh 4 < 0 then none else some (rsI (rsB l t w) wh 4)) else none
def rsV (q : Option Int32) : Int32 := match q with
  | some r => r
  | none => nI 0
def rsK (q : Option Int32) : Int32 := match q with
  | some _ => nI 0
  | none => nI 1
theorem rsN_le (st : Nat → Bool) : ∀ k, rsN st k ≤ k
  | 0 => Nat.le_refl _
  | k + 1 => by
    have := rsN_le st k
    show rsN st k + (if st k = true then 1 else 0) ≤ k + 1
    split <;> omega
theorem rsN_mono (st : Nat → Bool) (k : Nat) : ∀ m, k ≤ m → rsN st k ≤ rsN st m
  | 0, h => by rw [show k = 0 by omega]; exact Nat.le_refl _
  | m + 1, h => by
    by_cases e : k = m + 1
    · rw [e]; exact Nat.le_refl _
    · have := rsN_mono st k m (by omega)
      show rsN st k ≤ rsN st m + (if st m = true then 1 else 0)
      split <;> omega
theorem rsI_hit {st : Nat → Bool} {wh : Int32} {k : Nat} (h1 : st k = true) (h2 : nI (rsN st k) = wh) : ∀ m, k < m → m ≤ 4 → rsI st wh m = nI k
  | 0, h, _ => absurd h (Nat.not_lt_zero _)
  | m + 1, h, h4 => by
    show (if st m = true ∧ nI (rsN st m) = wh then nI m else rsI st wh m) = nI k
    by_cases e : k = m
    · subst e; exact if_pos ⟨h1, h2⟩
    · rw [if_neg]
      · exact rsI_hit h1 h2 m (by omega) (by omega)
      · intro z
        have a := rsN_mono st (k + 1) m (by omega)
        have b : rsN st (k + 1) = rsN st k + 1 := by show rsN st k + (if st k = true then 1 else 0) = _; rw [if_pos h1]
        have c := rsN_le st m
        have e2 := (sn_eq (by omega) (by omega)).mp (z.2.trans h2.symm)
        omega
theorem rsI_no {st : Nat → Bool} {wh : Int32} : ∀ m, (∀ k, k < m → ¬ (st k = true ∧ nI (rsN st k) = wh)) → rsI st wh m = -1
  | 0, _ => rfl
  | m + 1, h => by
    show (if st m = true ∧ nI (rsN st m) = wh then nI m else rsI st wh m) = -1
    rw [if_neg (h m (by omega))]
    exact rsI_no m (fun k hk => h k (by omega))
/-- StoneSecretsModel.getsBy(IIIII)I -/
theorem m_getsBy (d : Nat) (a c l t w : Int32) (h : am_H) : am_run (d + 1) 296 [.int a, .int c, .int l, .int t, .int w] (h) = some (some (.int (gnF a c l t w)), h) := by
  refine am_r296 (d := d + 0) (Nat.le_of_ble_eq_true rfl) [some (.int a), some (.int c), some (.int l), some (.int t), some (.int w)] rfl ?_
  refine am_q_iload_n rfl rfl ?_
  refine am_q_iconst (v := nI 1) rfl rfl ?_
  refine am_q_icmp_ne rfl (fun c_2 => ?_) (fun c_2 => ?_)
  · refine am_q_iload_n rfl rfl ?_
    refine am_q_iconst (v := nI 1) rfl rfl ?_
    refine am_q_icmp_ne rfl (fun c_21 => ?_) (fun c_21 => ?_)
    · refine am_q_iconst (v := nI 0) rfl rfl ?_
      refine am_q_ireturn rfl rfl rfl ?_
      rw [gnF, if_neg c_2, if_neg c_21]
    · refine am_q_iload rfl rfl ?_
      refine am_q_goto rfl ?_
      refine am_q_ireturn rfl rfl rfl ?_
      rw [gnF, if_neg c_2, if_pos c_21]
  · refine am_q_iload_n rfl rfl ?_
    refine am_q_iconst (v := nI 1) rfl rfl ?_
    refine am_q_icmp_ne rfl (fun c_7 => ?_) (fun c_7 => ?_)
    · refine am_q_iload_n rfl rfl ?_
      refine am_q_goto rfl ?_
      refine am_q_ireturn rfl rfl rfl ?_
      rw [gnF, if_pos c_2, if_neg c_7]
    · refine am_q_iload_n rfl rfl ?_
      refine am_q_ineg rfl rfl ?_
      refine am_q_goto rfl ?_
      refine am_q_ireturn rfl rfl rfl ?_
      rw [gnF, if_pos c_2, if_pos c_7]

theorem m_rsS0 (d n f : Nat) (hf : f < 2 ^ 20) (l t w wh ans : Int32) (l9 l10 l11 : Option Value) {μ : am_M2} {ν : am_N2} (Q : am_R → Prop) (K : ∀ l9 l10 l11, am_w (d + 1) (Option.some FieldType.int) am_g295 52 [some (.ref 133), some (.int l), some (.int t), some (.int w), some (.int wh), some (.int (sB true)), some (.int (nI (f + if rsB l t w 0 = true then 1 else 0))), some (.int (if rsB l t w 0 = true ∧ nI f = wh then nI 0 else ans)), some (.int (nI 1)), l9, l10, l11] [] (am_hp n μ ν) Q) : am_w (d + 1) (Option.some FieldType.int) am_g295 52 [some (.ref 133), some (.int l), some (.int t), some (.int w), some (.int wh), some (.int (sB (true))), some (.int (nI f)), some (.int ans), some (.int (nI 0)), l9, l10, l11] [] (am_hp n μ ν) (Q) := by
  refine am_q_iload rfl rfl ?_
  refine am_q_iconst (v := nI 4) rfl rfl ?_
  refine am_q_igeN rfl (by omega) (by omega) (fun c_55 => absurd c_55 (by omega)) (fun c_55 => ?_)
  refine am_q_iload rfl rfl ?_
  refine am_q_if_eqB rfl (fun c_60 => by simp at c_60) (fun c_60 => ?_)
  refine am_q_iload rfl rfl ?_
  refine am_q_iconst (v := nI 2) rfl rfl ?_
  refine am_q_idiv rfl (by decide) (show nI 0 / nI 2 = nI 0 from by decide) ?_
  refine am_q_istore [some _, some _, some _, some _, some _, some _, some _, some _, some _, some _, _, _] rfl (Nat.le_of_ble_eq_true rfl) rfl ?_
  refine am_q_iload rfl rfl ?_
  refine am_q_iconst (v := nI 2) rfl rfl ?_
  refine am_q_irem rfl (by decide) (show nI 0 - nI 0 / nI 2 * nI 2 = nI 0 from by decide) ?_
  refine am_q_istore [some _, some _, some _, some _, some _, some _, some _, some _, some _, some _, some _, _] rfl (Nat.le_of_ble_eq_true rfl) rfl ?_
  refine am_q_iconst (v := nI 1) rfl rfl ?_
  refine am_q_iload rfl rfl ?_
  refine am_q_isub rfl (show nI 1 - nI 0 = nI 1 from by decide) ?_
  refine am_q_iload rfl rfl ?_
  refine am_q_iload_n rfl rfl ?_
  refine am_q_iload_n rfl rfl ?_
  refine am_q_iload_n rfl rfl ?_
  refine am_q_call rfl rfl (m_getsBy _ _ _ _ _ _ _) rfl ?_
  refine am_q_iload rfl rfl ?_
  refine am_q_iload rfl rfl ?_
  refine am_q_iload_n rfl rfl ?_
  refine am_q_iload_n rfl rfl ?_
  refine am_q_iload_n rfl rfl ?_
  refine am_q_call rfl rfl (m_getsBy _ _ _ _ _ _ _) rfl ?_
  refine am_q_icmp_gt rfl (fun c_97 => ?_) (fun c_97 => ?_)
  · refine am_q_iconst (v := nI 0) rfl rfl ?_
    refine am_q_istore [some _, some _, some _, some _, some _, some _, some _, some _, some _, some _, some _, some _] rfl (Nat.le_of_ble_eq_true rfl) rfl ?_
    refine am_q_iload rfl rfl ?_
    refine am_q_zeqN rfl (by omega) (fun c_134 => ?_) (fun c_134 => absurd c_134 (by omega))
    refine am_q_iload rfl rfl ?_
    refine am_q_istore [some _, some _, some _, some _, some _, some _, some _, some _, some _, some _, some _, some _] rfl (Nat.le_of_ble_eq_true rfl) rfl ?_
    refine am_q_iload rfl rfl ?_
    refine am_q_iload rfl rfl ?_
    refine am_q_zeqN rfl (by omega) (fun c_157 => ?_) (fun c_157 => absurd c_157 (by omega))
    refine am_q_iconst (v := nI 0) rfl rfl ?_
    refine am_q_iadd rfl (nI_add _ _) ?_
    refine am_q_istore [some _, some _, some _, some _, some _, some _, some _, some _, some _, some _, some _, some _] rfl (Nat.le_of_ble_eq_true rfl) rfl ?_
    refine am_q_iinc [some _, some _, some _, some _, some _, some _, some _, some _, some _, some _, some _, some _] rfl (c := nI 1) rfl rfl (Nat.le_of_ble_eq_true rfl) (nI_add _ _) rfl ?_
    refine am_q_goto rfl ?_
    have hs : ¬ rsB l t w 0 = true := by
      have e : rsB l t w 0 = false := by show (decide (¬ gnF (nI 0) (nI 0) l t w < gnF (nI 1) (nI 0) l t w) && decide (¬ gnF (nI 0) (nI 0) l t w < gnF (nI 1) (nI 0) l t w)) = false; rw [decide_eq_false (fun z => z c_97)]; rfl
      rw [e]; exact Bool.false_ne_true
    rw [if_neg hs, if_neg (fun z => hs z.1)] at K
    exact K _ _ _
  · refine am_q_iconst (v := nI 1) rfl rfl ?_
    refine am_q_iload rfl rfl ?_
    refine am_q_isub rfl (show nI 1 - nI 0 = nI 1 from by decide) ?_
    refine am_q_iload rfl rfl ?_
    refine am_q_iload_n rfl rfl ?_
    refine am_q_iload_n rfl rfl ?_
    refine am_q_iload_n rfl rfl ?_
    refine am_q_call rfl rfl (m_getsBy _ _ _ _ _ _ _) rfl ?_
    refine am_q_iload rfl rfl ?_
    refine am_q_iload rfl rfl ?_
    refine am_q_iload_n rfl rfl ?_
    refine am_q_iload_n rfl rfl ?_
    refine am_q_iload_n rfl rfl ?_
    refine am_q_call rfl rfl (m_getsBy _ _ _ _ _ _ _) rfl ?_
    refine am_q_icmp_gt rfl (fun c_122 => ?_) (fun c_122 => ?_)
    · refine am_q_iconst (v := nI 0) rfl rfl ?_
      refine am_q_istore [some _, some _, some _, some _, some _, some _, some _, some _, some _, some _, some _, some _] rfl (Nat.le_of_ble_eq_true rfl) rfl ?_
      refine am_q_iload rfl rfl ?_
      refine am_q_zeqN rfl (by omega) (fun c_134 => ?_) (fun c_134 => absurd c_134 (by omega))
      refine am_q_iload rfl rfl ?_
      refine am_q_istore [some _, some _, some _, some _, some _, some _, some _, some _, some _, some _, some _, some _] rfl (Nat.le_of_ble_eq_true rfl) rfl ?_
      refine am_q_iload rfl rfl ?_
      refine am_q_iload rfl rfl ?_
      refine am_q_zeqN rfl (by omega) (fun c_157 => ?_) (fun c_157 => absurd c_157 (by omega))
      refine am_q_iconst (v := nI 0) rfl rfl ?_
      refine am_q_iadd rfl (nI_add _ _) ?_
      refine am_q_istore [some _, some _, some _, some _, some _, some _, some _, some _, some _, some _, some _, some _] rfl (Nat.le_of_ble_eq_true rfl) rfl ?_
      refine am_q_iinc [some _, some _, some _, some _, some _, some _, some _, some _, some _, some _, some _, some _] rfl (c := nI 1) rfl rfl (Nat.le_of_ble_eq_true rfl) (nI_add _ _) rfl ?_
      refine am_q_goto rfl ?_
      have hs : ¬ rsB l t w 0 = true := by
        have e : rsB l t w 0 = false := by show (decide (¬ gnF (nI 0) (nI 0) l t w < gnF (nI 1) (nI 0) l t w) && decide (¬ gnF (nI 0) (nI 0) l t w < gnF (nI 1) (nI 0) l t w)) = false; rw [decide_eq_false (p := ¬ gnF (nI 0) (nI 0) l t w < _) (fun z => z c_122), Bool.and_false]
        rw [e]; exact Bool.false_ne_true
      rw [if_neg hs, if_neg (fun z => hs z.1)] at K
      exact K _ _ _
    · refine am_q_iconst (v := nI 1) rfl rfl ?_
      refine am_q_goto rfl ?_
      refine am_q_istore [some _, some _, some _, some _, some _, some _, some _, some _, some _, some _, some _, some _] rfl (Nat.le_of_ble_eq_true rfl) rfl ?_
      refine am_q_iload rfl rfl ?_
      refine am_q_zeqN rfl (by omega) (fun c_134 => absurd c_134 (by omega)) (fun c_134 => ?_)
      refine am_q_iload rfl rfl ?_
      refine am_q_iload rfl rfl ?_
      refine am_q_icmp_ne rfl (fun c_141 => ?_) (fun c_141 => ?_)
      · refine am_q_iload rfl rfl ?_
        refine am_q_istore [some _, some _, some _, some _, some _, some _, some _, some _, some _, some _, some _, some _] rfl (Nat.le_of_ble_eq_true rfl) rfl ?_
        refine am_q_iload rfl rfl ?_
        refine am_q_iload rfl rfl ?_
        refine am_q_zeqN rfl (by omega) (fun c_157 => absurd c_157 (by omega)) (fun c_157 => ?_)
        refine am_q_iconst (v := nI 1) rfl rfl ?_
        refine am_q_goto rfl ?_
        refine am_q_iadd rfl (nI_add _ _) ?_
        refine am_q_istore [some _, some _, some _, some _, some _, some _, some _, some _, some _, some _, some _, some _] rfl (Nat.le_of_ble_eq_true rfl) rfl ?_
        refine am_q_iinc [some _, some _, some _, some _, some _, some _, some _, some _, some _, some _, some _, some _] rfl (c := nI 1) rfl rfl (Nat.le_of_ble_eq_true rfl) (nI_add _ _) rfl ?_
        refine am_q_goto rfl ?_
        have hs : rsB l t w 0 = true := by show (decide (¬ gnF (nI 0) (nI 0) l t w < gnF (nI 1) (nI 0) l t w) && decide (¬ gnF (nI 0) (nI 0) l t w < gnF (nI 1) (nI 0) l t w)) = true; rw [Bool.and_eq_true]; exact ⟨decide_eq_true c_97, decide_eq_true c_122⟩
        rw [if_pos hs, if_neg (fun z => c_141 z.2)] at K
        exact K _ _ _
      · refine am_q_iload rfl rfl ?_
        refine am_q_goto rfl ?_
        refine am_q_istore [some _, some _, some _, some _, some _, some _, some _, some _, some _, some _, some _, some _] rfl (Nat.le_of_ble_eq_true rfl) rfl ?_
        refine am_q_iload rfl rfl ?_
        refine am_q_iload rfl rfl ?_
        refine am_q_zeqN rfl (by omega) (fun c_157 => absurd c_157 (by omega)) (fun c_157 => ?_)
        refine am_q_iconst (v := nI 1) rfl rfl ?_
        refine am_q_goto rfl ?_
        refine am_q_iadd rfl (nI_add _ _) ?_
        refine am_q_istore [some _, some _, some _, some _, some _, some _, some _, some _, some _, some _, some _, some _] rfl (Nat.le_of_ble_eq_true rfl) rfl ?_
        refine am_q_iinc [some _, some _, some _, some _, some _, some _, some _, some _, some _, some _, some _, some _] rfl (c := nI 1) rfl rfl (Nat.le_of_ble_eq_true rfl) (nI_add _ _) rfl ?_
        refine am_q_goto rfl ?_
        have hs : rsB l t w 0 = true := by show (decide (¬ gnF (nI 0) (nI 0) l t w < gnF (nI 1) (nI 0) l t w) && decide (¬ gnF (nI 0) (nI 0) l t w < gnF (nI 1) (nI 0) l t w)) = true; rw [Bool.and_eq_true]; exact ⟨decide_eq_true c_97, decide_eq_true c_122⟩
        rw [if_pos hs, if_pos ⟨hs, c_141⟩] at K
        exact K _ _ _

theorem m_rsS1 (d n f : Nat) (hf : f < 2 ^ 20) (l t w wh ans : Int32) (l9 l10 l11 : Option Value) {μ : am_M2} {ν : am_N2} (Q : am_R → Prop) (K : ∀ l9 l10 l11, am_w (d + 1) (Option.some FieldType.int) am_g295 52 [some (.ref 133), some (.int l), some (.int t), some (.int w), some (.int wh), some (.int (sB true)), some (.int (nI (f + if rsB l t w 1 = true then 1 else 0))), some (.int (if rsB l t w 1 = true ∧ nI f = wh then nI 1 else ans)), some (.int (nI 2)), l9, l10, l11] [] (am_hp n μ ν) Q) : am_w (d + 1) (Option.some FieldType.int) am_g295 52 [some (.ref 133), some (.int l), some (.int t), some (.int w), some (.int wh), some (.int (sB (true))), some (.int (nI f)), some (.int ans), some (.int (nI 1)), l9, l10, l11] [] (am_hp n μ ν) (Q) := by
  refine am_q_iload rfl rfl ?_
  refine am_q_iconst (v := nI 4) rfl rfl ?_
  refine am_q_igeN rfl (by omega) (by omega) (fun c_55 => absurd c_55 (by omega)) (fun c_55 => ?_)
  refine am_q_iload rfl rfl ?_
  refine am_q_if_eqB rfl (fun c_60 => by simp at c_60) (fun c_60 => ?_)
  refine am_q_iload rfl rfl ?_
  refine am_q_iconst (v := nI 2) rfl rfl ?_
  refine am_q_idiv rfl (by decide) (show nI 1 / nI 2 = nI 0 from by decide) ?_
  refine am_q_istore [some _, some _, some _, some _, some _, some _, some _, some _, some _, some _, _, _] rfl (Nat.le_of_ble_eq_true rfl) rfl ?_
  refine am_q_iload rfl rfl ?_
  refine am_q_iconst (v := nI 2) rfl rfl ?_
  refine am_q_irem rfl (by decide) (show nI 1 - nI 1 / nI 2 * nI 2 = nI 1 from by decide) ?_
  refine am_q_istore [some _, some _, some _, some _, some _, some _, some _, some _, some _, some _, some _, _] rfl (Nat.le_of_ble_eq_true rfl) rfl ?_
  refine am_q_iconst (v := nI 1) rfl rfl ?_
  refine am_q_iload rfl rfl ?_
  refine am_q_isub rfl (show nI 1 - nI 0 = nI 1 from by decide) ?_
  refine am_q_iload rfl rfl ?_
  refine am_q_iload_n rfl rfl ?_
  refine am_q_iload_n rfl rfl ?_
  refine am_q_iload_n rfl rfl ?_
  refine am_q_call rfl rfl (m_getsBy _ _ _ _ _ _ _) rfl ?_
  refine am_q_iload rfl rfl ?_
  refine am_q_iload rfl rfl ?_
  refine am_q_iload_n rfl rfl ?_
  refine am_q_iload_n rfl rfl ?_
  refine am_q_iload_n rfl rfl ?_
  refine am_q_call rfl rfl (m_getsBy _ _ _ _ _ _ _) rfl ?_
  refine am_q_icmp_gt rfl (fun c_97 => ?_) (fun c_97 => ?_)
  · refine am_q_iconst (v := nI 0) rfl rfl ?_
    refine am_q_istore [some _, some _, some _, some _, some _, some _, some _, some _, some _, some _, some _, some _] rfl (Nat.le_of_ble_eq_true rfl) rfl ?_
    refine am_q_iload rfl rfl ?_
    refine am_q_zeqN rfl (by omega) (fun c_134 => ?_) (fun c_134 => absurd c_134 (by omega))
    refine am_q_iload rfl rfl ?_
    refine am_q_istore [some _, some _, some _, some _, some _, some _, some _, some _, some _, some _, some _, some _] rfl (Nat.le_of_ble_eq_true rfl) rfl ?_
    refine am_q_iload rfl rfl ?_
    refine am_q_iload rfl rfl ?_
    refine am_q_zeqN rfl (by omega) (fun c_157 => ?_) (fun c_157 => absurd c_157 (by omega))
    refine am_q_iconst (v := nI 0) rfl rfl ?_
    refine am_q_iadd rfl (nI_add _ _) ?_
    refine am_q_istore [some _, some _, some _, some _, some _, some _, some _, some _, some _, some _, some _, some _] rfl (Nat.le_of_ble_eq_true rfl) rfl ?_
    refine am_q_iinc [some _, some _, some _, some _, some _, some _, some _, some _, some _, some _, some _, some _] rfl (c := nI 1) rfl rfl (Nat.le_of_ble_eq_true rfl) (nI_add _ _) rfl ?_
    refine am_q_goto rfl ?_
    have hs : ¬ rsB l t w 1 = true := by
      have e : rsB l t w 1 = false := by show (decide (¬ gnF (nI 0) (nI 1) l t w < gnF (nI 1) (nI 1) l t w) && decide (¬ gnF (nI 1) (nI 0) l t w < gnF (nI 0) (nI 0) l t w)) = false; rw [decide_eq_false (fun z => z c_97)]; rfl
      rw [e]; exact Bool.false_ne_true
    rw [if_neg hs, if_neg (fun z => hs z.1)] at K
    exact K _ _ _
  · refine am_q_iconst (v := nI 1) rfl rfl ?_
    refine am_q_iload rfl rfl ?_
    refine am_q_isub rfl (show nI 1 - nI 1 = nI 0 from by decide) ?_
    refine am_q_iload rfl rfl ?_
    refine am_q_iload_n rfl rfl ?_
    refine am_q_iload_n rfl rfl ?_
    refine am_q_iload_n rfl rfl ?_
    refine am_q_call rfl rfl (m_getsBy _ _ _ _ _ _ _) rfl ?_
    refine am_q_iload rfl rfl ?_
    refine am_q_iload rfl rfl ?_
    refine am_q_iload_n rfl rfl ?_
    refine am_q_iload_n rfl rfl ?_
    refine am_q_iload_n rfl rfl ?_
    refine am_q_call rfl rfl (m_getsBy _ _ _ _ _ _ _) rfl ?_
    refine am_q_icmp_gt rfl (fun c_122 => ?_) (fun c_122 => ?_)
    · refine am_q_iconst (v := nI 0) rfl rfl ?_
      refine am_q_istore [some _, some _, some _, some _, some _, some _, some _, some _, some _, some _, some _, some _] rfl (Nat.le_of_ble_eq_true rfl) rfl ?_
      refine am_q_iload rfl rfl ?_
      refine am_q_zeqN rfl (by omega) (fun c_134 => ?_) (fun c_134 => absurd c_134 (by omega))
      refine am_q_iload rfl rfl ?_
      refine am_q_istore [some _, some _, some _, some _, some _, some _, some _, some _, some _, some _, some _, some _] rfl (Nat.le_of_ble_eq_true rfl) rfl ?_
      refine am_q_iload rfl rfl ?_
      refine am_q_iload rfl rfl ?_
      refine am_q_zeqN rfl (by omega) (fun c_157 => ?_) (fun c_157 => absurd c_157 (by omega))
      refine am_q_iconst (v := nI 0) rfl rfl ?_
      refine am_q_iadd rfl (nI_add _ _) ?_
      refine am_q_istore [some _, some _, some _, some _, some _, some _, some _, some _, some _, some _, some _, some _] rfl (Nat.le_of_ble_eq_true rfl) rfl ?_
      refine am_q_iinc [some _, some _, some _, some _, some _, some _, some _, some _, some _, some _, some _, some _] rfl (c := nI 1) rfl rfl (Nat.le_of_ble_eq_true rfl) (nI_add _ _) rfl ?_
      refine am_q_goto rfl ?_
      have hs : ¬ rsB l t w 1 = true := by
        have e : rsB l t w 1 = false := by show (decide (¬ gnF (nI 0) (nI 1) l t w < gnF (nI 1) (nI 1) l t w) && decide (¬ gnF (nI 1) (nI 0) l t w < gnF (nI 0) (nI 0) l t w)) = false; rw [decide_eq_false (p := ¬ gnF (nI 1) (nI 0) l t w < _) (fun z => z c_122), Bool.and_false]
        rw [e]; exact Bool.false_ne_true
      rw [if_neg hs, if_neg (fun z => hs z.1)] at K
      exact K _ _ _
    · refine am_q_iconst (v := nI 1) rfl rfl ?_
      refine am_q_goto rfl ?_
      refine am_q_istore [some _, some _, some _, some _, some _, some _, some _, some _, some _, some _, some _, some _] rfl (Nat.le_of_ble_eq_true rfl) rfl ?_
      refine am_q_iload rfl rfl ?_
      refine am_q_zeqN rfl (by omega) (fun c_134 => absurd c_134 (by omega)) (fun c_134 => ?_)
      refine am_q_iload rfl rfl ?_
      refine am_q_iload rfl rfl ?_
      refine am_q_icmp_ne rfl (fun c_141 => ?_) (fun c_141 => ?_)
      · refine am_q_iload rfl rfl ?_
        refine am_q_istore [some _, some _, some _, some _, some _, some _, some _, some _, some _, some _, some _, some _] rfl (Nat.le_of_ble_eq_true rfl) rfl ?_
        refine am_q_iload rfl rfl ?_
        refine am_q_iload rfl rfl ?_
        refine am_q_zeqN rfl (by omega) (fun c_157 => absurd c_157 (by omega)) (fun c_157 => ?_)
        refine am_q_iconst (v := nI 1) rfl rfl ?_
        refine am_q_goto rfl ?_
        refine am_q_iadd rfl (nI_add _ _) ?_
        refine am_q_istore [some _, some _, some _, some _, some _, some _, some _, some _, some _, some _, some _, some _] rfl (Nat.le_of_ble_eq_true rfl) rfl ?_
        refine am_q_iinc [some _, some _, some _, some _, some _, some _, some _, some _, some _, some _, some _, some _] rfl (c := nI 1) rfl rfl (Nat.le_of_ble_eq_true rfl) (nI_add _ _) rfl ?_
        refine am_q_goto rfl ?_
        have hs : rsB l t w 1 = true := by show (decide (¬ gnF (nI 0) (nI 1) l t w < gnF (nI 1) (nI 1) l t w) && decide (¬ gnF (nI 1) (nI 0) l t w < gnF (nI 0) (nI 0) l t w)) = true; rw [Bool.and_eq_true]; exact ⟨decide_eq_true c_97, decide_eq_true c_122⟩
        rw [if_pos hs, if_neg (fun z => c_141 z.2)] at K
        exact K _ _ _
      · refine am_q_iload rfl rfl ?_
        refine am_q_goto rfl ?_
        refine am_q_istore [some _, some _, some _, some _, some _, some _, some _, some _, some _, some _, some _, some _] rfl (Nat.le_of_ble_eq_true rfl) rfl ?_
        refine am_q_iload rfl rfl ?_
        refine am_q_iload rfl rfl ?_
        refine am_q_zeqN rfl (by omega) (fun c_157 => absurd c_157 (by omega)) (fun c_157 => ?_)
        refine am_q_iconst (v := nI 1) rfl rfl ?_
        refine am_q_goto rfl ?_
        refine am_q_iadd rfl (nI_add _ _) ?_
        refine am_q_istore [some _, some _, some _, some _, some _, some _, some _, some _, some _, some _, some _, some _] rfl (Nat.le_of_ble_eq_true rfl) rfl ?_
        refine am_q_iinc [some _, some _, some _, some _, some _, some _, some _, some _, some _, some _, some _, some _] rfl (c := nI 1) rfl rfl (Nat.le_of_ble_eq_true rfl) (nI_add _ _) rfl ?_
        refine am_q_goto rfl ?_
        have hs : rsB l t w 1 = true := by show (decide (¬ gnF (nI 0) (nI 1) l t w < gnF (nI 1) (nI 1) l t w) && decide (¬ gnF (nI 1) (nI 0) l t w < gnF (nI 0) (nI 0) l t w)) = true; rw [Bool.and_eq_true]; exact ⟨decide_eq_true c_97, decide_eq_true c_122⟩
        rw [if_pos hs, if_pos ⟨hs, c_141⟩] at K
        exact K _ _ _

theorem m_rsS2 (d n f : Nat) (hf : f < 2 ^ 20) (l t w wh ans : Int32) (l9 l10 l11 : Option Value) {μ : am_M2} {ν : am_N2} (Q : am_R → Prop) (K : ∀ l9 l10 l11, am_w (d + 1) (Option.some FieldType.int) am_g295 52 [some (.ref 133), some (.int l), some (.int t), some (.int w), some (.int wh), some (.int (sB true)), some (.int (nI (f + if rsB l t w 2 = true then 1 else 0))), some (.int (if rsB l t w 2 = true ∧ nI f = wh then nI 2 else ans)), some (.int (nI 3)), l9, l10, l11] [] (am_hp n μ ν) Q) : am_w (d + 1) (Option.some FieldType.int) am_g295 52 [some (.ref 133), some (.int l), some (.int t), some (.int w), some (.int wh), some (.int (sB (true))), some (.int (nI f)), some (.int ans), some (.int (nI 2)), l9, l10, l11] [] (am_hp n μ ν) (Q) := by
  refine am_q_iload rfl rfl ?_
  refine am_q_iconst (v := nI 4) rfl rfl ?_
  refine am_q_igeN rfl (by omega) (by omega) (fun c_55 => absurd c_55 (by omega)) (fun c_55 => ?_)
  refine am_q_iload rfl rfl ?_
  refine am_q_if_eqB rfl (fun c_60 => by simp at c_60) (fun c_60 => ?_)
  refine am_q_iload rfl rfl ?_
  refine am_q_iconst (v := nI 2) rfl rfl ?_
  refine am_q_idiv rfl (by decide) (show nI 2 / nI 2 = nI 1 from by decide) ?_
  refine am_q_istore [some _, some _, some _, some _, some _, some _, some _, some _, some _, some _, _, _] rfl (Nat.le_of_ble_eq_true rfl) rfl ?_
  refine am_q_iload rfl rfl ?_
  refine am_q_iconst (v := nI 2) rfl rfl ?_
  refine am_q_irem rfl (by decide) (show nI 2 - nI 2 / nI 2 * nI 2 = nI 0 from by decide) ?_
  refine am_q_istore [some _, some _, some _, some _, some _, some _, some _, some _, some _, some _, some _, _] rfl (Nat.le_of_ble_eq_true rfl) rfl ?_
  refine am_q_iconst (v := nI 1) rfl rfl ?_
  refine am_q_iload rfl rfl ?_
  refine am_q_isub rfl (show nI 1 - nI 1 = nI 0 from by decide) ?_
  refine am_q_iload rfl rfl ?_
  refine am_q_iload_n rfl rfl ?_
  refine am_q_iload_n rfl rfl ?_
  refine am_q_iload_n rfl rfl ?_
  refine am_q_call rfl rfl (m_getsBy _ _ _ _ _ _ _) rfl ?_
  refine am_q_iload rfl rfl ?_
  refine am_q_iload rfl rfl ?_
  refine am_q_iload_n rfl rfl ?_
  refine am_q_iload_n rfl rfl ?_
  refine am_q_iload_n rfl rfl ?_
  refine am_q_call rfl rfl (m_getsBy _ _ _ _ _ _ _) rfl ?_
  refine am_q_icmp_gt rfl (fun c_97 => ?_) (fun c_97 => ?_)
  · refine am_q_iconst (v := nI 0) rfl rfl ?_
    refine am_q_istore [some _, some _, some _, some _, some _, some _, some _, some _, some _, some _, some _, some _] rfl (Nat.le_of_ble_eq_true rfl) rfl ?_
    refine am_q_iload rfl rfl ?_
    refine am_q_zeqN rfl (by omega) (fun c_134 => ?_) (fun c_134 => absurd c_134 (by omega))
    refine am_q_iload rfl rfl ?_
    refine am_q_istore [some _, some _, some _, some _, some _, some _, some _, some _, some _, some _, some _, some _] rfl (Nat.le_of_ble_eq_true rfl) rfl ?_
    refine am_q_iload rfl rfl ?_
    refine am_q_iload rfl rfl ?_
    refine am_q_zeqN rfl (by omega) (fun c_157 => ?_) (fun c_157 => absurd c_157 (by omega))
    refine am_q_iconst (v := nI 0) rfl rfl ?_
    refine am_q_iadd rfl (nI_add _ _) ?_
    refine am_q_istore [some _, some _, some _, some _, some _, some _, some _, some _, some _, some _, some _, some _] rfl (Nat.le_of_ble_eq_true rfl) rfl ?_
    refine am_q_iinc [some _, some _, some _, some _, some _, some _, some _, some _, some _, some _, some _, some _] rfl (c := nI 1) rfl rfl (Nat.le_of_ble_eq_true rfl) (nI_add _ _) rfl ?_
    refine am_q_goto rfl ?_
    have hs : ¬ rsB l t w 2 = true := by
      have e : rsB l t w 2 = false := by show (decide (¬ gnF (nI 1) (nI 0) l t w < gnF (nI 0) (nI 0) l t w) && decide (¬ gnF (nI 0) (nI 1) l t w < gnF (nI 1) (nI 1) l t w)) = false; rw [decide_eq_false (fun z => z c_97)]; rfl
      rw [e]; exact Bool.false_ne_true
    rw [if_neg hs, if_neg (fun z => hs z.1)] at K
    exact K _ _ _
  · refine am_q_iconst (v := nI 1) rfl rfl ?_
    refine am_q_iload rfl rfl ?_
    refine am_q_isub rfl (show nI 1 - nI 0 = nI 1 from by decide) ?_
    refine am_q_iload rfl rfl ?_
    refine am_q_iload_n rfl rfl ?_
    refine am_q_iload_n rfl rfl ?_
    refine am_q_iload_n rfl rfl ?_
    refine am_q_call rfl rfl (m_getsBy _ _ _ _ _ _ _) rfl ?_
    refine am_q_iload rfl rfl ?_
    refine am_q_iload rfl rfl ?_
    refine am_q_iload_n rfl rfl ?_
    refine am_q_iload_n rfl rfl ?_
    refine am_q_iload_n rfl rfl ?_
    refine am_q_call rfl rfl (m_getsBy _ _ _ _ _ _ _) rfl ?_
    refine am_q_icmp_gt rfl (fun c_122 => ?_) (fun c_122 => ?_)
    · refine am_q_iconst (v := nI 0) rfl rfl ?_
      refine am_q_istore [some _, some _, some _, some _, some _, some _, some _, some _, some _, some _, some _, some _] rfl (Nat.le_of_ble_eq_true rfl) rfl ?_
      refine am_q_iload rfl rfl ?_
      refine am_q_zeqN rfl (by omega) (fun c_134 => ?_) (fun c_134 => absurd c_134 (by omega))
      refine am_q_iload rfl rfl ?_
      refine am_q_istore [some _, some _, some _, some _, some _, some _, some _, some _, some _, some _, some _, some _] rfl (Nat.le_of_ble_eq_true rfl) rfl ?_
      refine am_q_iload rfl rfl ?_
      refine am_q_iload rfl rfl ?_
      refine am_q_zeqN rfl (by omega) (fun c_157 => ?_) (fun c_157 => absurd c_157 (by omega))
      refine am_q_iconst (v := nI 0) rfl rfl ?_
      refine am_q_iadd rfl (nI_add _ _) ?_
      refine am_q_istore [some _, some _, some _, some _, some _, some _, some _, some _, some _, some _, some _, some _] rfl (Nat.le_of_ble_eq_true rfl) rfl ?_
      refine am_q_iinc [some _, some _, some _, some _, some _, some _, some _, some _, some _, some _, some _, some _] rfl (c := nI 1) rfl rfl (Nat.le_of_ble_eq_true rfl) (nI_add _ _) rfl ?_
      refine am_q_goto rfl ?_
      have hs : ¬ rsB l t w 2 = true := by
        have e : rsB l t w 2 = false := by show (decide (¬ gnF (nI 1) (nI 0) l t w < gnF (nI 0) (nI 0) l t w) && decide (¬ gnF (nI 0) (nI 1) l t w < gnF (nI 1) (nI 1) l t w)) = false; rw [decide_eq_false (p := ¬ gnF (nI 0) (nI 1) l t w < _) (fun z => z c_122), Bool.and_false]
        rw [e]; exact Bool.false_ne_true
      rw [if_neg hs, if_neg (fun z => hs z.1)] at K
      exact K _ _ _
    · refine am_q_iconst (v := nI 1) rfl rfl ?_
      refine am_q_goto rfl ?_
      refine am_q_istore [some _, some _, some _, some _, some _, some _, some _, some _, some _, some _, some _, some _] rfl (Nat.le_of_ble_eq_true rfl) rfl ?_
      refine am_q_iload rfl rfl ?_
      refine am_q_zeqN rfl (by omega) (fun c_134 => absurd c_134 (by omega)) (fun c_134 => ?_)
      refine am_q_iload rfl rfl ?_
      refine am_q_iload rfl rfl ?_
      refine am_q_icmp_ne rfl (fun c_141 => ?_) (fun c_141 => ?_)
      · refine am_q_iload rfl rfl ?_
        refine am_q_istore [some _, some _, some _, some _, some _, some _, some _, some _, some _, some _, some _, some _] rfl (Nat.le_of_ble_eq_true rfl) rfl ?_
        refine am_q_iload rfl rfl ?_
        refine am_q_iload rfl rfl ?_
        refine am_q_zeqN rfl (by omega) (fun c_157 => absurd c_157 (by omega)) (fun c_157 => ?_)
        refine am_q_iconst (v := nI 1) rfl rfl ?_
        refine am_q_goto rfl ?_
        refine am_q_iadd rfl (nI_add _ _) ?_
        refine am_q_istore [some _, some _, some _, some _, some _, some _, some _, some _, some _, some _, some _, some _] rfl (Nat.le_of_ble_eq_true rfl) rfl ?_
        refine am_q_iinc [some _, some _, some _, some _, some _, some _, some _, some _, some _, some _, some _, some _] rfl (c := nI 1) rfl rfl (Nat.le_of_ble_eq_true rfl) (nI_add _ _) rfl ?_
        refine am_q_goto rfl ?_
        have hs : rsB l t w 2 = true := by show (decide (¬ gnF (nI 1) (nI 0) l t w < gnF (nI 0) (nI 0) l t w) && decide (¬ gnF (nI 0) (nI 1) l t w < gnF (nI 1) (nI 1) l t w)) = true; rw [Bool.and_eq_true]; exact ⟨decide_eq_true c_97, decide_eq_true c_122⟩
        rw [if_pos hs, if_neg (fun z => c_141 z.2)] at K
        exact K _ _ _
      · refine am_q_iload rfl rfl ?_
        refine am_q_goto rfl ?_
        refine am_q_istore [some _, some _, some _, some _, some _, some _, some _, some _, some _, some _, some _, some _] rfl (Nat.le_of_ble_eq_true rfl) rfl ?_
        refine am_q_iload rfl rfl ?_
        refine am_q_iload rfl rfl ?_
        refine am_q_zeqN rfl (by omega) (fun c_157 => absurd c_157 (by omega)) (fun c_157 => ?_)
        refine am_q_iconst (v := nI 1) rfl rfl ?_
        refine am_q_goto rfl ?_
        refine am_q_iadd rfl (nI_add _ _) ?_
        refine am_q_istore [some _, some _, some _, some _, some _, some _, some _, some _, some _, some _, some _, some _] rfl (Nat.le_of_ble_eq_true rfl) rfl ?_
        refine am_q_iinc [some _, some _, some _, some _, some _, some _, some _, some _, some _, some _, some _, some _] rfl (c := nI 1) rfl rfl (Nat.le_of_ble_eq_true rfl) (nI_add _ _) rfl ?_
        refine am_q_goto rfl ?_
        have hs : rsB l t w 2 = true := by show (decide (¬ gnF (nI 1) (nI 0) l t w < gnF (nI 0) (nI 0) l t w) && decide (¬ gnF (nI 0) (nI 1) l t w < gnF (nI 1) (nI 1) l t w)) = true; rw [Bool.and_eq_true]; exact ⟨decide_eq_true c_97, decide_eq_true c_122⟩
        rw [if_pos hs, if_pos ⟨hs, c_141⟩] at K
        exact K _ _ _

theorem m_rsS3 (d n f : Nat) (hf : f < 2 ^ 20) (l t w wh ans : Int32) (l9 l10 l11 : Option Value) {μ : am_M2} {ν : am_N2} (Q : am_R → Prop) (K : ∀ l9 l10 l11, am_w (d + 1) (Option.some FieldType.int) am_g295 52 [some (.ref 133), some (.int l), some (.int t), some (.int w), some (.int wh), some (.int (sB true)), some (.int (nI (f + if rsB l t w 3 = true then 1 else 0))), some (.int (if rsB l t w 3 = true ∧ nI f = wh then nI 3 else ans)), some (.int (nI 4)), l9, l10, l11] [] (am_hp n μ ν) Q) : am_w (d + 1) (Option.some FieldType.int) am_g295 52 [some (.ref 133), some (.int l), some (.int t), some (.int w), some (.int wh), some (.int (sB (true))), some (.int (nI f)), some (.int ans), some (.int (nI 3)), l9, l10, l11] [] (am_hp n μ ν) (Q) := by
  refine am_q_iload rfl rfl ?_
  refine am_q_iconst (v := nI 4) rfl rfl ?_
  refine am_q_igeN rfl (by omega) (by omega) (fun c_55 => absurd c_55 (by omega)) (fun c_55 => ?_)
  refine am_q_iload rfl rfl ?_
  refine am_q_if_eqB rfl (fun c_60 => by simp at c_60) (fun c_60 => ?_)
  refine am_q_iload rfl rfl ?_
  refine am_q_iconst (v := nI 2) rfl rfl ?_
  refine am_q_idiv rfl (by decide) (show nI 3 / nI 2 = nI 1 from by decide) ?_
  refine am_q_istore [some _, some _, some _, some _, some _, some _, some _, some _, some _, some _, _, _] rfl (Nat.le_of_ble_eq_true rfl) rfl ?_
  refine am_q_iload rfl rfl ?_
  refine am_q_iconst (v := nI 2) rfl rfl ?_
  refine am_q_irem rfl (by decide) (show nI 3 - nI 3 / nI 2 * nI 2 = nI 1 from by decide) ?_
  refine am_q_istore [some _, some _, some _, some _, some _, some _, some _, some _, some _, some _, some _, _] rfl (Nat.le_of_ble_eq_true rfl) rfl ?_
  refine am_q_iconst (v := nI 1) rfl rfl ?_
  refine am_q_iload rfl rfl ?_
  refine am_q_isub rfl (show nI 1 - nI 1 = nI 0 from by decide) ?_
  refine am_q_iload rfl rfl ?_
  refine am_q_iload_n rfl rfl ?_
  refine am_q_iload_n rfl rfl ?_
  refine am_q_iload_n rfl rfl ?_
  refine am_q_call rfl rfl (m_getsBy _ _ _ _ _ _ _) rfl ?_
  refine am_q_iload rfl rfl ?_
  refine am_q_iload rfl rfl ?_
  refine am_q_iload_n rfl rfl ?_
  refine am_q_iload_n rfl rfl ?_
  refine am_q_iload_n rfl rfl ?_
  refine am_q_call rfl rfl (m_getsBy _ _ _ _ _ _ _) rfl ?_
  refine am_q_icmp_gt rfl (fun c_97 => ?_) (fun c_97 => ?_)
  · refine am_q_iconst (v := nI 0) rfl rfl ?_
    refine am_q_istore [some _, some _, some _, some _, some _, some _, some _, some _, some _, some _, some _, some _] rfl (Nat.le_of_ble_eq_true rfl) rfl ?_
    refine am_q_iload rfl rfl ?_
    refine am_q_zeqN rfl (by omega) (fun c_134 => ?_) (fun c_134 => absurd c_134 (by omega))
    refine am_q_iload rfl rfl ?_
    refine am_q_istore [some _, some _, some _, some _, some _, some _, some _, some _, some _, some _, some _, some _] rfl (Nat.le_of_ble_eq_true rfl) rfl ?_
    refine am_q_iload rfl rfl ?_
    refine am_q_iload rfl rfl ?_
    refine am_q_zeqN rfl (by omega) (fun c_157 => ?_) (fun c_157 => absurd c_157 (by omega))
    refine am_q_iconst (v := nI 0) rfl rfl ?_
    refine am_q_iadd rfl (nI_add _ _) ?_
    refine am_q_istore [some _, some _, some _, some _, some _, some _, some _, some _, some _, some _, some _, some _] rfl (Nat.le_of_ble_eq_true rfl) rfl ?_
    refine am_q_iinc [some _, some _, some _, some _, some _, some _, some _, some _, some _, some _, some _, some _] rfl (c := nI 1) rfl rfl (Nat.le_of_ble_eq_true rfl) (nI_add _ _) rfl ?_
    refine am_q_goto rfl ?_
    have hs : ¬ rsB l t w 3 = true := by
      have e : rsB l t w 3 = false := by show (decide (¬ gnF (nI 1) (nI 1) l t w < gnF (nI 0) (nI 1) l t w) && decide (¬ gnF (nI 1) (nI 1) l t w < gnF (nI 0) (nI 1) l t w)) = false; rw [decide_eq_false (fun z => z c_97)]; rfl
      rw [e]; exact Bool.false_ne_true
    rw [if_neg hs, if_neg (fun z => hs z.1)] at K
    exact K _ _ _
  · refine am_q_iconst (v := nI 1) rfl rfl ?_
    refine am_q_iload rfl rfl ?_
    refine am_q_isub rfl (show nI 1 - nI 1 = nI 0 from by decide) ?_
    refine am_q_iload rfl rfl ?_
    refine am_q_iload_n rfl rfl ?_
    refine am_q_iload_n rfl rfl ?_
    refine am_q_iload_n rfl rfl ?_
    refine am_q_call rfl rfl (m_getsBy _ _ _ _ _ _ _) rfl ?_
    refine am_q_iload rfl rfl ?_
    refine am_q_iload rfl rfl ?_
    refine am_q_iload_n rfl rfl ?_
    refine am_q_iload_n rfl rfl ?_
    refine am_q_iload_n rfl rfl ?_
    refine am_q_call rfl rfl (m_getsBy _ _ _ _ _ _ _) rfl ?_
    refine am_q_icmp_gt rfl (fun c_122 => ?_) (fun c_122 => ?_)
    · refine am_q_iconst (v := nI 0) rfl rfl ?_
      refine am_q_istore [some _, some _, some _, some _, some _, some _, some _, some _, some _, some _, some _, some _] rfl (Nat.le_of_ble_eq_true rfl) rfl ?_
      refine am_q_iload rfl rfl ?_
      refine am_q_zeqN rfl (by omega) (fun c_134 => ?_) (fun c_134 => absurd c_134 (by omega))
      refine am_q_iload rfl rfl ?_
      refine am_q_istore [some _, some _, some _, some _, some _, some _, some _, some _, some _, some _, some _, some _] rfl (Nat.le_of_ble_eq_true rfl) rfl ?_
      refine am_q_iload rfl rfl ?_
      refine am_q_iload rfl rfl ?_
      refine am_q_zeqN rfl (by omega) (fun c_157 => ?_) (fun c_157 => absurd c_157 (by omega))
      refine am_q_iconst (v := nI 0) rfl rfl ?_
      refine am_q_iadd rfl (nI_add _ _) ?_
      refine am_q_istore [some _, some _, some _, some _, some _, some _, some _, some _, some _, some _, some _, some _] rfl (Nat.le_of_ble_eq_true rfl) rfl ?_
      refine am_q_iinc [some _, some _, some _, some _, some _, some _, some _, some _, some _, some _, some _, some _] rfl (c := nI 1) rfl rfl (Nat.le_of_ble_eq_true rfl) (nI_add _ _) rfl ?_
      refine am_q_goto rfl ?_
      have hs : ¬ rsB l t w 3 = true := by
        have e : rsB l t w 3 = false := by show (decide (¬ gnF (nI 1) (nI 1) l t w < gnF (nI 0) (nI 1) l t w) && decide (¬ gnF (nI 1) (nI 1) l t w < gnF (nI 0) (nI 1) l t w)) = false; rw [decide_eq_false (p := ¬ gnF (nI 1) (nI 1) l t w < _) (fun z => z c_122), Bool.and_false]
        rw [e]; exact Bool.false_ne_true
      rw [if_neg hs, if_neg (fun z => hs z.1)] at K
      exact K _ _ _
    · refine am_q_iconst (v := nI 1) rfl rfl ?_
      refine am_q_goto rfl ?_
      refine am_q_istore [some _, some _, some _, some _, some _, some _, some _, some _, some _, some _, some _, some _] rfl (Nat.le_of_ble_eq_true rfl) rfl ?_
      refine am_q_iload rfl rfl ?_
      refine am_q_zeqN rfl (by omega) (fun c_134 => absurd c_134 (by omega)) (fun c_134 => ?_)
      refine am_q_iload rfl rfl ?_
      refine am_q_iload rfl rfl ?_
      refine am_q_icmp_ne rfl (fun c_141 => ?_) (fun c_141 => ?_)
      · refine am_q_iload rfl rfl ?_
        refine am_q_istore [some _, some _, some _, some _, some _, some _, some _, some _, some _, some _, some _, some _] rfl (Nat.le_of_ble_eq_true rfl) rfl ?_
        refine am_q_iload rfl rfl ?_
        refine am_q_iload rfl rfl ?_
        refine am_q_zeqN rfl (by omega) (fun c_157 => absurd c_157 (by omega)) (fun c_157 => ?_)
        refine am_q_iconst (v := nI 1) rfl rfl ?_
        refine am_q_goto rfl ?_
        refine am_q_iadd rfl (nI_add _ _) ?_
        refine am_q_istore [some _, some _, some _, some _, some _, some _, some _, some _, some _, some _, some _, some _] rfl (Nat.le_of_ble_eq_true rfl) rfl ?_
        refine am_q_iinc [some _, some _, some _, some _, some _, some _, some _, some _, some _, some _, some _, some _] rfl (c := nI 1) rfl rfl (Nat.le_of_ble_eq_true rfl) (nI_add _ _) rfl ?_
        refine am_q_goto rfl ?_
        have hs : rsB l t w 3 = true := by show (decide (¬ gnF (nI 1) (nI 1) l t w < gnF (nI 0) (nI 1) l t w) && decide (¬ gnF (nI 1) (nI 1) l t w < gnF (nI 0) (nI 1) l t w)) = true; rw [Bool.and_eq_true]; exact ⟨decide_eq_true c_97, decide_eq_true c_122⟩
        rw [if_pos hs, if_neg (fun z => c_141 z.2)] at K
        exact K _ _ _
      · refine am_q_iload rfl rfl ?_
        refine am_q_goto rfl ?_
        refine am_q_istore [some _, some _, some _, some _, some _, some _, some _, some _, some _, some _, some _, some _] rfl (Nat.le_of_ble_eq_true rfl) rfl ?_
        refine am_q_iload rfl rfl ?_
        refine am_q_iload rfl rfl ?_
        refine am_q_zeqN rfl (by omega) (fun c_157 => absurd c_157 (by omega)) (fun c_157 => ?_)
        refine am_q_iconst (v := nI 1) rfl rfl ?_
        refine am_q_goto rfl ?_
        refine am_q_iadd rfl (nI_add _ _) ?_
        refine am_q_istore [some _, some _, some _, some _, some _, some _, some _, some _, some _, some _, some _, some _] rfl (Nat.le_of_ble_eq_true rfl) rfl ?_
        refine am_q_iinc [some _, some _, some _, some _, some _, some _, some _, some _, some _, some _, some _, some _] rfl (c := nI 1) rfl rfl (Nat.le_of_ble_eq_true rfl) (nI_add _ _) rfl ?_
        refine am_q_goto rfl ?_
        have hs : rsB l t w 3 = true := by show (decide (¬ gnF (nI 1) (nI 1) l t w < gnF (nI 0) (nI 1) l t w) && decide (¬ gnF (nI 1) (nI 1) l t w < gnF (nI 0) (nI 1) l t w)) = true; rw [Bool.and_eq_true]; exact ⟨decide_eq_true c_97, decide_eq_true c_122⟩
        rw [if_pos hs, if_pos ⟨hs, c_141⟩] at K
        exact K _ _ _

theorem m_rsA (d n : Nat) (l t w wh : Int32) (l9 l10 l11 : Option Value) {μ : am_M2} {ν : am_N2} (hv : rsOk l t w wh = true) (hw : wh < 0) : am_w (d + 1) (Option.some FieldType.int) am_g295 52 [some (.ref 133), some (.int l), some (.int t), some (.int w), some (.int wh), some (.int (sB (true))), some (.int (nI (rsN (rsB l t w) 4))), some (.int (rsI (rsB l t w) wh 4)), some (.int (nI 4)), l9, l10, l11] [] (am_hp n μ ν) (fun y => y = (some (.int (rsV (rsQ l t w wh))), am_hp n (am_up μ 133 0 (rsK (rsQ l t w wh))) ν)) := by
  refine am_q_iload rfl rfl ?_
  refine am_q_iconst (v := nI 4) rfl rfl ?_
  refine am_q_igeN rfl (by omega) (by omega) (fun c_55 => ?_) (fun c_55 => absurd c_55 (by omega))
  refine am_q_aload_n rfl rfl ?_
  refine am_q_iload rfl rfl ?_
  refine am_q_if_eqB rfl (fun c_177 => by simp at c_177) (fun c_177 => ?_)
  refine am_q_iload rfl rfl ?_
  refine am_q_if_lt rfl (fun c_182 => ?_) (fun c_182 => absurd hw c_182)
  refine am_q_iconst (v := nI 0) rfl rfl ?_
  refine am_q_goto rfl ?_
  refine am_q_pi rfl rfl rfl (Or.inl rfl) ?_
  refine am_q_aload_n rfl rfl ?_
  refine am_q_gi rfl rfl rfl am_up_eq ?_
  refine am_q_if_le rfl (fun c_202 => ?_) (fun c_202 => absurd (show nI 0 ≤ 0 from by decide) c_202)
  refine am_q_iload rfl rfl ?_
  refine am_q_if_ge rfl (fun c_211 => absurd hw (Int32.not_lt.mpr c_211)) (fun c_211 => ?_)
  refine am_q_iload rfl rfl ?_
  refine am_q_goto rfl ?_
  refine am_q_ireturn rfl rfl rfl ?_
  rw [rsQ, if_pos hv, if_pos hw]; rfl

theorem m_rsB (d n : Nat) (l t w wh : Int32) (l9 l10 l11 : Option Value) {μ : am_M2} {ν : am_N2} (hv : rsOk l t w wh = true) (hw : ¬ wh < 0) (ha : rsI (rsB l t w) wh 4 < 0) : am_w (d + 1) (Option.some FieldType.int) am_g295 52 [some (.ref 133), some (.int l), some (.int t), some (.int w), some (.int wh), some (.int (sB (true))), some (.int (nI (rsN (rsB l t w) 4))), some (.int (rsI (rsB l t w) wh 4)), some (.int (nI 4)), l9, l10, l11] [] (am_hp n μ ν) (fun y => y = (some (.int (rsV (rsQ l t w wh))), am_hp n (am_up μ 133 0 (rsK (rsQ l t w wh))) ν)) := by
  refine am_q_iload rfl rfl ?_
  refine am_q_iconst (v := nI 4) rfl rfl ?_
  refine am_q_igeN rfl (by omega) (by omega) (fun c_55 => ?_) (fun c_55 => absurd c_55 (by omega))
  refine am_q_aload_n rfl rfl ?_
  refine am_q_iload rfl rfl ?_
  refine am_q_if_eqB rfl (fun c_177 => by simp at c_177) (fun c_177 => ?_)
  refine am_q_iload rfl rfl ?_
  refine am_q_if_lt rfl (fun c_182 => absurd c_182 hw) (fun c_182 => ?_)
  refine am_q_iload rfl rfl ?_
  refine am_q_if_lt rfl (fun c_187 => ?_) (fun c_187 => absurd ha c_187)
  refine am_q_iconst (v := nI 1) rfl rfl ?_
  refine am_q_pi rfl rfl rfl (Or.inl rfl) ?_
  refine am_q_aload_n rfl rfl ?_
  refine am_q_gi rfl rfl rfl am_up_eq ?_
  refine am_q_if_le rfl (fun c_202 => absurd c_202 (by decide)) (fun c_202 => ?_)
  refine am_q_iconst (v := nI 0) rfl rfl ?_
  refine am_q_goto rfl ?_
  refine am_q_ireturn rfl rfl rfl ?_
  rw [rsQ, if_pos hv, if_neg hw, if_pos ha]; rfl

theorem m_rsC (d n : Nat) (l t w wh : Int32) (l9 l10 l11 : Option Value) {μ : am_M2} {ν : am_N2} (hv : rsOk l t w wh = true) (hw : ¬ wh < 0) (ha : ¬ rsI (rsB l t w) wh 4 < 0) : am_w (d + 1) (Option.some FieldType.int) am_g295 52 [some (.ref 133), some (.int l), some (.int t), some (.int w), some (.int wh), some (.int (sB (true))), some (.int (nI (rsN (rsB l t w) 4))), some (.int (rsI (rsB l t w) wh 4)), some (.int (nI 4)), l9, l10, l11] [] (am_hp n μ ν) (fun y => y = (some (.int (rsV (rsQ l t w wh))), am_hp n (am_up μ 133 0 (rsK (rsQ l t w wh))) ν)) := by
  refine am_q_iload rfl rfl ?_
  refine am_q_iconst (v := nI 4) rfl rfl ?_
  refine am_q_igeN rfl (by omega) (by omega) (fun c_55 => ?_) (fun c_55 => absurd c_55 (by omega))
  refine am_q_aload_n rfl rfl ?_
  refine am_q_iload rfl rfl ?_
  refine am_q_if_eqB rfl (fun c_177 => by simp at c_177) (fun c_177 => ?_)
  refine am_q_iload rfl rfl ?_
  refine am_q_if_lt rfl (fun c_182 => absurd c_182 hw) (fun c_182 => ?_)
  refine am_q_iload rfl rfl ?_
  refine am_q_if_lt rfl (fun c_187 => absurd c_187 ha) (fun c_187 => ?_)
  refine am_q_iconst (v := nI 0) rfl rfl ?_
  refine am_q_goto rfl ?_
  refine am_q_pi rfl rfl rfl (Or.inl rfl) ?_
  refine am_q_aload_n rfl rfl ?_
  refine am_q_gi rfl rfl rfl am_up_eq ?_
  refine am_q_if_le rfl (fun c_202 => ?_) (fun c_202 => absurd (show nI 0 ≤ 0 from by decide) c_202)
  refine am_q_iload rfl rfl ?_
  refine am_q_if_ge rfl (fun c_211 => ?_) (fun c_211 => absurd (Int32.not_lt.mp hw) c_211)
  refine am_q_iload rfl rfl ?_
  refine am_q_ireturn rfl rfl rfl ?_
  rw [rsQ, if_pos hv, if_neg hw, if_neg ha]; rfl

theorem m_rsX (d n : Nat) (l t w wh : Int32) {μ : am_M2} {ν : am_N2} (hv : rsOk l t w wh = false) : am_w (d + 1) (Option.some FieldType.int) am_g295 52 [some (.ref 133), some (.int l), some (.int t), some (.int w), some (.int wh), some (.int (sB (false))), some (.int (nI 0)), some (.int (-1)), some (.int (nI 0)), none, none, none] [] (am_hp n μ ν) (fun y => y = (some (.int (rsV (rsQ l t w wh))), am_hp n (am_up μ 133 0 (rsK (rsQ l t w wh))) ν)) := by
  refine am_q_iload rfl rfl ?_
  refine am_q_iconst (v := nI 4) rfl rfl ?_
  refine am_q_igeN rfl (by omega) (by omega) (fun c_55 => absurd c_55 (by omega)) (fun c_55 => ?_)
  refine am_q_iload rfl rfl ?_
  refine am_q_if_eqB rfl (fun c_60 => ?_) (fun c_60 => by simp at c_60)
  refine am_q_aload_n rfl rfl ?_
  refine am_q_iload rfl rfl ?_
  refine am_q_if_eqB rfl (fun c_177 => ?_) (fun c_177 => by simp at c_177)
  refine am_q_iconst (v := nI 1) rfl rfl ?_
  refine am_q_pi rfl rfl rfl (Or.inl rfl) ?_
  refine am_q_aload_n rfl rfl ?_
  refine am_q_gi rfl rfl rfl am_up_eq ?_
  refine am_q_if_le rfl (fun c_202 => absurd c_202 (by decide)) (fun c_202 => ?_)
  refine am_q_iconst (v := nI 0) rfl rfl ?_
  refine am_q_goto rfl ?_
  refine am_q_ireturn rfl rfl rfl ?_
  rw [rsQ, if_neg (by rw [hv]; exact Bool.false_ne_true)]; rfl

/-- StoneSecretsModel.rests(IIII)I -/
theorem m_rests (d : Nat) (l t w wh : Int32) (n : Nat) {μ : am_M2} (ν : am_N2) : am_run (d + 2) 295 [.ref 133, .int l, .int t, .int w, .int wh] (am_hp n μ ν) = some (some (.int (rsV (rsQ l t w wh))), am_hp n (am_up μ 133 0 (rsK (rsQ l t w wh))) ν) := by
  refine am_r295 (d := d + 1) (Nat.le_of_ble_eq_true rfl) [some (.ref 133), some (.int l), some (.int t), some (.int w), some (.int wh), none, none, none, none, none, none, none] rfl ?_
  refine am_q_iload_n rfl rfl ?_
  refine am_q_iconst (v := nI 0) rfl rfl ?_
  refine am_q_bipush (v := nI 9) rfl rfl ?_
  refine am_q_call rfl rfl (m_within _ _ _ _ _) rfl ?_
  refine am_q_if_eqB rfl (fun c_7 => ?_) (fun c_7 => ?_)
  · refine am_q_iconst (v := nI 0) rfl rfl ?_
    refine am_q_istore [some _, some _, some _, some _, some _, some _, none, none, none, none, none, none] rfl (Nat.le_of_ble_eq_true rfl) rfl ?_
    refine am_q_iconst (v := nI 0) rfl rfl ?_
    refine am_q_istore [some _, some _, some _, some _, some _, some _, some _, none, none, none, none, none] rfl (Nat.le_of_ble_eq_true rfl) rfl ?_
    refine am_q_iconst (v := -1) rfl rfl ?_
    refine am_q_istore [some _, some _, some _, some _, some _, some _, some _, some _, none, none, none, none] rfl (Nat.le_of_ble_eq_true rfl) rfl ?_
    refine am_q_iconst (v := nI 0) rfl rfl ?_
    refine am_q_istore [some _, some _, some _, some _, some _, some _, some _, some _, some _, none, none, none] rfl (Nat.le_of_ble_eq_true rfl) rfl ?_
    exact m_rsX d n l t w wh (by show (rIn l 0 9 && rIn t 0 9 && rIn w 0 9 && decide (¬ wh < -1)) = false; rw [c_7]; rfl)
  · refine am_q_iload_n rfl rfl ?_
    refine am_q_iconst (v := nI 0) rfl rfl ?_
    refine am_q_bipush (v := nI 9) rfl rfl ?_
    refine am_q_call rfl rfl (m_within _ _ _ _ _) rfl ?_
    refine am_q_if_eqB rfl (fun c_17 => ?_) (fun c_17 => ?_)
    · refine am_q_iconst (v := nI 0) rfl rfl ?_
      refine am_q_istore [some _, some _, some _, some _, some _, some _, none, none, none, none, none, none] rfl (Nat.le_of_ble_eq_true rfl) rfl ?_
      refine am_q_iconst (v := nI 0) rfl rfl ?_
      refine am_q_istore [some _, some _, some _, some _, some _, some _, some _, none, none, none, none, none] rfl (Nat.le_of_ble_eq_true rfl) rfl ?_
      refine am_q_iconst (v := -1) rfl rfl ?_
      refine am_q_istore [some _, some _, some _, some _, some _, some _, some _, some _, none, none, none, none] rfl (Nat.le_of_ble_eq_true rfl) rfl ?_
      refine am_q_iconst (v := nI 0) rfl rfl ?_
      refine am_q_istore [some _, some _, some _, some _, some _, some _, some _, some _, some _, none, none, none] rfl (Nat.le_of_ble_eq_true rfl) rfl ?_
      exact m_rsX d n l t w wh (by show (rIn l 0 9 && rIn t 0 9 && rIn w 0 9 && decide (¬ wh < -1)) = false; rw [c_7, c_17]; rfl)
    · refine am_q_iload_n rfl rfl ?_
      refine am_q_iconst (v := nI 0) rfl rfl ?_
      refine am_q_bipush (v := nI 9) rfl rfl ?_
      refine am_q_call rfl rfl (m_within _ _ _ _ _) rfl ?_
      refine am_q_if_eqB rfl (fun c_27 => ?_) (fun c_27 => ?_)
      · refine am_q_iconst (v := nI 0) rfl rfl ?_
        refine am_q_istore [some _, some _, some _, some _, some _, some _, none, none, none, none, none, none] rfl (Nat.le_of_ble_eq_true rfl) rfl ?_
        refine am_q_iconst (v := nI 0) rfl rfl ?_
        refine am_q_istore [some _, some _, some _, some _, some _, some _, some _, none, none, none, none, none] rfl (Nat.le_of_ble_eq_true rfl) rfl ?_
        refine am_q_iconst (v := -1) rfl rfl ?_
        refine am_q_istore [some _, some _, some _, some _, some _, some _, some _, some _, none, none, none, none] rfl (Nat.le_of_ble_eq_true rfl) rfl ?_
        refine am_q_iconst (v := nI 0) rfl rfl ?_
        refine am_q_istore [some _, some _, some _, some _, some _, some _, some _, some _, some _, none, none, none] rfl (Nat.le_of_ble_eq_true rfl) rfl ?_
        exact m_rsX d n l t w wh (by show (rIn l 0 9 && rIn t 0 9 && rIn w 0 9 && decide (¬ wh < -1)) = false; rw [c_7, c_17, c_27]; rfl)
      · refine am_q_iload rfl rfl ?_
        refine am_q_iconst (v := -1) rfl rfl ?_
        refine am_q_icmp_lt rfl (fun c_33 => ?_) (fun c_33 => ?_)
        · refine am_q_iconst (v := nI 0) rfl rfl ?_
          refine am_q_istore [some _, some _, some _, some _, some _, some _, none, none, none, none, none, none] rfl (Nat.le_of_ble_eq_true rfl) rfl ?_
          refine am_q_iconst (v := nI 0) rfl rfl ?_
          refine am_q_istore [some _, some _, some _, some _, some _, some _, some _, none, none, none, none, none] rfl (Nat.le_of_ble_eq_true rfl) rfl ?_
          refine am_q_iconst (v := -1) rfl rfl ?_
          refine am_q_istore [some _, some _, some _, some _, some _, some _, some _, some _, none, none, none, none] rfl (Nat.le_of_ble_eq_true rfl) rfl ?_
          refine am_q_iconst (v := nI 0) rfl rfl ?_
          refine am_q_istore [some _, some _, some _, some _, some _, some _, some _, some _, some _, none, none, none] rfl (Nat.le_of_ble_eq_true rfl) rfl ?_
          exact m_rsX d n l t w wh (by show (rIn l 0 9 && rIn t 0 9 && rIn w 0 9 && decide (¬ wh < -1)) = false; rw [decide_eq_false (fun z => z c_33), Bool.and_false])
        · refine am_q_iconst (v := nI 1) rfl rfl ?_
          refine am_q_goto rfl ?_
          refine am_q_istore [some _, some _, some _, some _, some _, some _, none, none, none, none, none, none] rfl (Nat.le_of_ble_eq_true rfl) rfl ?_
          refine am_q_iconst (v := nI 0) rfl rfl ?_
          refine am_q_istore [some _, some _, some _, some _, some _, some _, some _, none, none, none, none, none] rfl (Nat.le_of_ble_eq_true rfl) rfl ?_
          refine am_q_iconst (v := -1) rfl rfl ?_
          refine am_q_istore [some _, some _, some _, some _, some _, some _, some _, some _, none, none, none, none] rfl (Nat.le_of_ble_eq_true rfl) rfl ?_
          refine am_q_iconst (v := nI 0) rfl rfl ?_
          refine am_q_istore [some _, some _, some _, some _, some _, some _, some _, some _, some _, none, none, none] rfl (Nat.le_of_ble_eq_true rfl) rfl ?_
          have hv : rsOk l t w wh = true := by show (rIn l 0 9 && rIn t 0 9 && rIn w 0 9 && decide (¬ wh < -1)) = true; rw [c_7, c_17, c_27, decide_eq_true c_33]; rfl
          have hb : ∀ k, k ≤ 4 → rsN (rsB l t w) k < 2 ^ 20 := fun k hk => Nat.lt_of_le_of_lt (rsN_le _ k) (by omega)
          refine m_rsS0 d n (rsN (rsB l t w) 0) (hb 0 (by decide)) l t w wh (rsI (rsB l t w) wh 0) none none none _ (fun a1 b1 e1 => ?_)
          refine m_rsS1 d n (rsN (rsB l t w) 1) (hb 1 (by decide)) l t w wh (rsI (rsB l t w) wh 1) a1 b1 e1 _ (fun a2 b2 e2 => ?_)
          refine m_rsS2 d n (rsN (rsB l t w) 2) (hb 2 (by decide)) l t w wh (rsI (rsB l t w) wh 2) a2 b2 e2 _ (fun a3 b3 e3 => ?_)
          refine m_rsS3 d n (rsN (rsB l t w) 3) (hb 3 (by decide)) l t w wh (rsI (rsB l t w) wh 3) a3 b3 e3 _ (fun a4 b4 e4 => ?_)
          by_cases hw : wh < 0
          · exact m_rsA d n l t w wh a4 b4 e4 hv hw
          by_cases ha : rsI (rsB l t w) wh 4 < 0
          · exact m_rsB d n l t w wh a4 b4 e4 hv hw ha
          · exact m_rsC d n l t w wh a4 b4 e4 hv hw ha

/-- StoneSecretsModel.thrown()I -/
theorem m_thrown (d : Nat) (n : Nat) (v : Int32) {μ : am_M2} (ν : am_N2) (hv : μ 133 0 = v) : am_run (d + 1) 177 [.ref 133] (am_hp n μ ν) = some (some (.int v), am_hp n μ ν) := by
  refine am_r177 (d := d + 0) (Nat.le_of_ble_eq_true rfl) [some (.ref 133)] rfl ?_
  refine am_q_aload_n rfl rfl ?_
  refine am_q_gi rfl rfl rfl hv ?_
  refine am_q_ireturn rfl rfl rfl ?_
  rfl
