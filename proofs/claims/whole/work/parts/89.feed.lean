/-! ===== reading: the tape ===== -/
abbrev tTp : Type := (Nat → Nat) × Nat
def knB (b : Nat) : Bool := decide (b = 10) || (decide (32 ≤ b) && decide (b ≤ 126))
def tpS (X : tTp) (b : Nat) : tTp := if knB b = true ∧ X.2 < 1000 then (fup X.1 X.2 b, X.2 + 1) else X
def byN (m j : Nat) : Nat := m / 2 ^ (56 - 8 * j) % 256
def tpB (m : Nat) (X : tTp) : Nat → tTp := lpF (fun j x => tpS x (byN m j)) X
theorem tpB_s (m : Nat) (X : tTp) (j : Nat) : tpB m X (j + 1) = tpS (tpB m X j) (byN m j) := rfl
def tpOk (X : tTp) : Prop := X.2 ≤ 1000 ∧ ∀ j, j < X.2 → knB (X.1 j) = true
theorem kn_128 {b : Nat} (h : knB b = true) : b < 128 := by unfold knB at h; simp at h; omega
def xTp (μ : am_M2) (X : tTp) : Prop := μ 3 1 = nI X.2 ∧ ∀ j, j < X.2 → μ 4 j = nI (X.1 j)
def mTp (μ : am_M2) (X : tTp) : Prop := μ 133 2 = nI X.2 ∧ ∀ j, j < X.2 → μ 134 j = nI (X.1 j)
theorem tpS_ok {X : tTp} {b : Nat} (h : tpOk X) : tpOk (tpS X b) := by
  unfold tpS
  split
  · rename_i c
    refine ⟨by show X.2 + 1 ≤ 1000; omega, fun j hj => ?_⟩
    have hj : j < X.2 + 1 := hj
    show knB (fup X.1 X.2 b j) = true
    unfold fup
    by_cases e : j = X.2
    · rw [if_pos e]; exact c.1
    · rw [if_neg e]; exact h.2 j (by omega)
  · exact h
theorem tpB_ok {X : tTp} {m : Nat} (h : tpOk X) : ∀ j, tpOk (tpB m X j)
  | 0 => h
  | j + 1 => tpS_ok (tpB_ok h j)
def shI (j : Nat) : Int32 := if j ≤ 7 then nI (56 - 8 * j) else -8
theorem shI_s : ∀ j, j < 8 → shI j + (-8) = shI (j + 1) := by decide
theorem shI_p : ∀ j, j < 8 → ¬ shI j < 0 ∧ shI j = nI (56 - 8 * j) := by decide
theorem bv_sm : ∀ k, k < 64 → ((nI k).toInt64 &&& 63).toBitVec.smod 64 = BitVec.ofNat 64 k := by decide +kernel
theorem bv_um : ∀ k, k < 64 → ((nI k).toInt64.toUInt64 &&& Int64.toUInt64 63).toBitVec % 64 = BitVec.ofNat 64 k := by decide +kernel
theorem bv_255 : ∀ i, i < 32 → (255 : BitVec 32).getLsbD i = decide (i < 8) := by decide
theorem bv_255L : ∀ i, i < 64 → (255 : BitVec 64).getLsbD i = decide (i < 8) := by decide
theorem by_rhs (m k i : Nat) (hi : i < 32) : (nI (m % 2 ^ 64 / 2 ^ k % 256)).toBitVec.getLsbD i = (decide (i < 8) && (decide (k + i < 64) && m.testBit (k + i))) := by
  show (BitVec.ofNat 32 (m % 2 ^ 64 / 2 ^ k % 256)).getLsbD i = _
  rw [BitVec.getLsbD_ofNat, decide_eq_true hi, Bool.true_and, show (256 : Nat) = 2 ^ 8 from rfl, Nat.testBit_mod_two_pow, Nat.testBit_div_two_pow, Nat.testBit_mod_two_pow, Nat.add_comm i k]
theorem by_m (m k : Nat) (hk : k ≤ 56) : ((lN m) >>> ((nI k).toInt64 &&& 63)).toInt32 &&& nI 255 = nI (m % 2 ^ 64 / 2 ^ k % 256) := by
  rw [← Int32.toBitVec_inj]
  apply BitVec.eq_of_getLsbD_eq
  intro i hi
  rw [by_rhs m k i hi, Int32.toBitVec_and, BitVec.getLsbD_and, show (nI 255).toBitVec = (255 : BitVec 32) from rfl, bv_255 i hi, Int64.toBitVec_toInt32, BitVec.getLsbD_signExtend, Int64.toBitVec_shiftRight, bv_sm k (by omega)]
  by_cases h8 : i < 8
  · rw [if_pos (by omega), BitVec.sshiftRight', BitVec.getLsbD_sshiftRight, show (BitVec.ofNat 64 k).toNat = k from by rw [BitVec.toNat_ofNat]; omega, show (lN m).toBitVec = BitVec.ofNat 64 m from rfl, BitVec.getLsbD_ofNat]
    simp [h8, show i < 32 by omega, show ¬ 64 ≤ i by omega, show k + i < 64 by omega]
  · simp [h8]
theorem by_c (m k : Nat) (hk : k ≤ 56) : (((lN m).toUInt64 >>> ((nI k).toInt64.toUInt64 &&& Int64.toUInt64 63)).toInt64 &&& lN 255).toInt32 = nI (m % 2 ^ 64 / 2 ^ k % 256) := by
  rw [← Int32.toBitVec_inj]
  apply BitVec.eq_of_getLsbD_eq
  intro i hi
  rw [by_rhs m k i hi, Int64.toBitVec_toInt32, BitVec.getLsbD_signExtend, if_pos (by omega), Int64.toBitVec_and, BitVec.getLsbD_and, show (lN 255).toBitVec = (255 : BitVec 64) from rfl, bv_255L i (by omega)]
  show (decide (i < 32) && ((((lN m).toUInt64 >>> ((nI k).toInt64.toUInt64 &&& Int64.toUInt64 63)).toBitVec).getLsbD i && decide (i < 8))) = _
  rw [UInt64.toBitVec_shiftRight, bv_um k (by omega)]
  by_cases h8 : i < 8
  · rw [BitVec.ushiftRight_eq', BitVec.getLsbD_ushiftRight, show (BitVec.ofNat 64 k).toNat = k from by rw [BitVec.toNat_ofNat]; omega, show (lN m).toUInt64.toBitVec = BitVec.ofNat 64 m from rfl, BitVec.getLsbD_ofNat]
    simp [h8, show i < 32 by omega, show k + i < 64 by omega]
  · simp [h8]
theorem l_of (v : Int64) : ∃ m, m < 2 ^ 64 ∧ v = lN m := ⟨v.toBitVec.toNat, v.toBitVec.isLt, by
  rw [← Int64.toBitVec_inj]
  show v.toBitVec = BitVec.ofNat 64 v.toBitVec.toNat
  simp⟩
def frTp (μ μ' : am_M2) : Prop := ∀ i, i ≠ 3 → i ≠ 4 → μ' i = μ i
def frMt (μ μ' : am_M2) : Prop := ∀ i k, ¬ (i = 133 ∧ (k = 0 ∨ k = 2)) → i ≠ 134 → μ' i k = μ i k
theorem tpI_c {μ μ1 : am_M2} {X : tTp} {b : Nat} (hb : knB b = true) (hl : X.2 < 1000) (h : frTp μ μ1 ∧ xTp μ1 X) : frTp μ (am_up (am_up μ1 4 X.2 (nI b)) 3 1 (nI (X.2 + 1))) ∧ xTp (am_up (am_up μ1 4 X.2 (nI b)) 3 1 (nI (X.2 + 1))) (tpS X b) := by
  unfold tpS
  rw [if_pos ⟨hb, hl⟩]
  refine ⟨fun i a b => by funext k; rw [am_up_ne (by omega), am_up_ne (by omega), h.1 i a b], ⟨am_up_eq, fun j hj => ?_⟩⟩
  have hj : j < X.2 + 1 := hj
  show _ = nI (fup X.1 X.2 b j)
  unfold fup
  by_cases e : j = X.2
  · rw [if_pos e, am_up_ne (by omega), e, am_up_eq]
  · rw [if_neg e, am_up_ne (by omega), am_up_ne (by omega)]; exact h.2.2 j (by omega)
theorem tpN_c {μ μ1 : am_M2} {X : tTp} {b : Nat} (hb : ¬ (knB b = true ∧ X.2 < 1000)) (h : frTp μ μ1 ∧ xTp μ1 X) : frTp μ μ1 ∧ xTp μ1 (tpS X b) := by
  unfold tpS
  rw [if_neg hb]; exact h
theorem s_addBL (d n m0 : Nat) (hm0 : m0 < 2 ^ 64) {X : tTp} {μ : am_M2} (ν : am_N2) (hX : tpOk X) : ∀ (m j : Nat) (μ1 : am_M2) (o4 : Option Value) (o5 : Option Value), j + m = 8 → frTp μ μ1 ∧ xTp μ1 (tpB m0 X j) → am_w (d + 0) (Option.none : Option FieldType) am_g12 3 [some (.ref 3), some (.long (lN m0)), none, some (.int (shI j)), o4, o5] [] (am_hp n μ1 ν) (fun y => ∃ μ', y = (none, am_hp n μ' ν) ∧ frTp μ μ' ∧ xTp μ' (tpB m0 X 8)) := by
  intro m
  induction m with
  | zero =>
    intro j μ1 o4 o5 hj hinv
    have hjj : j = 8 := by omega
    subst hjj
    refine am_q_iload_n rfl rfl ?_
    refine am_q_if_lt rfl (fun c_4 => ?_) (fun c_4 => absurd (show shI 8 < 0 by decide) c_4)
    refine am_q_return rfl rfl ?_
    exact ⟨_, rfl, hinv⟩
  | succ m ih =>
    intro j μ1 o4 o5 hj hinv
    have hok := tpB_ok (m := m0) hX j
    have hl1000 := hok.1
    have hb256 : byN m0 j < 256 := Nat.mod_lt _ (by decide)
    have hjp := shI_p j (by omega)
    refine am_q_iload_n rfl rfl ?_
    refine am_q_if_lt rfl (fun c_4 => absurd c_4 hjp.1) (fun c_4 => ?_)
    refine am_q_lload_n rfl rfl ?_
    refine am_q_iload_n rfl rfl ?_
    refine am_q_lushr rfl rfl ?_
    refine am_q_ldc2_w (v := lN 255) rfl rfl ?_
    refine am_q_land rfl rfl ?_
    refine am_q_l2i rfl (show _ = nI (byN m0 j) from by rw [(shI_p j (by omega)).2]; exact (by_c m0 (56 - 8 * j) (by omega)).trans (by rw [Nat.mod_eq_of_lt hm0]; rfl)) ?_
    refine am_q_istore [some _, some _, none, some _, some _, _] rfl (Nat.le_of_ble_eq_true rfl) rfl ?_
    refine am_q_iload rfl rfl ?_
    refine am_q_bipush (v := nI 10) rfl rfl ?_
    refine am_q_ieqN rfl (by omega) (by omega) (fun c_21 => ?_) (fun c_21 => ?_)
    · have hkn : knB (byN m0 j) = true := by unfold knB; rw [decide_eq_true c_21]; rfl
      refine am_q_iconst (v := nI 1) rfl rfl ?_
      refine am_q_goto rfl ?_
      refine am_q_istore [some _, some _, none, some _, some _, some _] rfl (Nat.le_of_ble_eq_true rfl) rfl ?_
      refine am_q_iload rfl rfl ?_
      refine am_q_zeqN rfl (by omega) (fun c_47 => absurd c_47 (by omega)) (fun c_47 => ?_)
      refine am_q_aload_n rfl rfl ?_
      refine am_q_gi rfl rfl rfl hinv.2.1 ?_
      refine am_q_sipush (v := nI 1000) rfl rfl ?_
      refine am_q_igeN rfl (by omega) (by omega) (fun c_57 => ?_) (fun c_57 => ?_)
      · have hfull : ¬ (knB (byN m0 j) = true ∧ (tpB m0 X j).2 < 1000) := fun z => by have := z.2; omega
        refine am_q_iinc [some _, some _, none, some _, some _, some _] rfl (c := -8) rfl rfl (Nat.le_of_ble_eq_true rfl) (shI_s j (by omega)) rfl ?_
        refine am_q_goto rfl ?_
        first | exact ih (j + 1) _ _ _ (by omega) (tpI_c hkn (by omega) hinv) | exact ih (j + 1) _ _ _ (by omega) (tpN_c hfull hinv) | exact ih (j + 1) _ _ _ (by omega) (tpN_c (fun z => by rw [hkf] at z; cases z.1) hinv)
      · refine am_q_aload_n rfl rfl ?_
        refine am_q_gr rfl rfl rfl ?_
        refine am_q_aload_n rfl rfl ?_
        refine am_q_gi rfl rfl rfl hinv.2.1 ?_
        refine am_q_iload rfl rfl ?_
        refine am_q_i2c rfl (show _ = nI (byN m0 j) from by rw [pk_char, pk_tn (by omega), Nat.mod_eq_of_lt (by omega)]) ?_
        refine am_q_cast rfl rfl (by first | exact am_ix_nI (by omega) (by omega) | rfl) (decide_eq_true (pk_charN (by omega)).1) ?_
        refine am_q_aload_n rfl rfl ?_
        refine am_q_dupr rfl ?_
        refine am_q_gi rfl rfl rfl hinv.2.1 ?_
        refine am_q_iconst (v := nI 1) rfl rfl ?_
        refine am_q_iadd rfl (nI_add _ _) ?_
        refine am_q_pi rfl rfl rfl (Or.inl rfl) ?_
        refine am_q_iinc [some _, some _, none, some _, some _, some _] rfl (c := -8) rfl rfl (Nat.le_of_ble_eq_true rfl) (shI_s j (by omega)) rfl ?_
        refine am_q_goto rfl ?_
        first | exact ih (j + 1) _ _ _ (by omega) (tpI_c hkn (by omega) hinv) | exact ih (j + 1) _ _ _ (by omega) (tpN_c hfull hinv) | exact ih (j + 1) _ _ _ (by omega) (tpN_c (fun z => by rw [hkf] at z; cases z.1) hinv)
    · refine am_q_iload rfl rfl ?_
      refine am_q_bipush (v := nI 32) rfl rfl ?_
      refine am_q_iltN rfl (by omega) (by omega) (fun c_28 => ?_) (fun c_28 => ?_)
      · have hkf : knB (byN m0 j) = false := by unfold knB; rw [decide_eq_false c_21, decide_eq_false (by omega)]; rfl
        refine am_q_iconst (v := nI 0) rfl rfl ?_
        refine am_q_istore [some _, some _, none, some _, some _, some _] rfl (Nat.le_of_ble_eq_true rfl) rfl ?_
        refine am_q_iload rfl rfl ?_
        refine am_q_zeqN rfl (by omega) (fun c_47 => ?_) (fun c_47 => absurd c_47 (by omega))
        refine am_q_iinc [some _, some _, none, some _, some _, some _] rfl (c := -8) rfl rfl (Nat.le_of_ble_eq_true rfl) (shI_s j (by omega)) rfl ?_
        refine am_q_goto rfl ?_
        first | exact ih (j + 1) _ _ _ (by omega) (tpI_c hkn (by omega) hinv) | exact ih (j + 1) _ _ _ (by omega) (tpN_c hfull hinv) | exact ih (j + 1) _ _ _ (by omega) (tpN_c (fun z => by rw [hkf] at z; cases z.1) hinv)
      · refine am_q_iload rfl rfl ?_
        refine am_q_bipush (v := nI 126) rfl rfl ?_
        refine am_q_igtN rfl (by omega) (by omega) (fun c_35 => ?_) (fun c_35 => ?_)
        · have hkf : knB (byN m0 j) = false := by unfold knB; rw [decide_eq_false c_21, decide_eq_false (show ¬ byN m0 j ≤ 126 by omega), Bool.and_false]; rfl
          refine am_q_iconst (v := nI 0) rfl rfl ?_
          refine am_q_istore [some _, some _, none, some _, some _, some _] rfl (Nat.le_of_ble_eq_true rfl) rfl ?_
          refine am_q_iload rfl rfl ?_
          refine am_q_zeqN rfl (by omega) (fun c_47 => ?_) (fun c_47 => absurd c_47 (by omega))
          refine am_q_iinc [some _, some _, none, some _, some _, some _] rfl (c := -8) rfl rfl (Nat.le_of_ble_eq_true rfl) (shI_s j (by omega)) rfl ?_
          refine am_q_goto rfl ?_
          first | exact ih (j + 1) _ _ _ (by omega) (tpI_c hkn (by omega) hinv) | exact ih (j + 1) _ _ _ (by omega) (tpN_c hfull hinv) | exact ih (j + 1) _ _ _ (by omega) (tpN_c (fun z => by rw [hkf] at z; cases z.1) hinv)
        · have hkn : knB (byN m0 j) = true := by unfold knB; rw [decide_eq_true (show 32 ≤ byN m0 j by omega), decide_eq_true (show byN m0 j ≤ 126 by omega), Bool.and_true, Bool.or_true]
          refine am_q_iconst (v := nI 1) rfl rfl ?_
          refine am_q_goto rfl ?_
          refine am_q_istore [some _, some _, none, some _, some _, some _] rfl (Nat.le_of_ble_eq_true rfl) rfl ?_
          refine am_q_iload rfl rfl ?_
          refine am_q_zeqN rfl (by omega) (fun c_47 => absurd c_47 (by omega)) (fun c_47 => ?_)
          refine am_q_aload_n rfl rfl ?_
          refine am_q_gi rfl rfl rfl hinv.2.1 ?_
          refine am_q_sipush (v := nI 1000) rfl rfl ?_
          refine am_q_igeN rfl (by omega) (by omega) (fun c_57 => ?_) (fun c_57 => ?_)
          · have hfull : ¬ (knB (byN m0 j) = true ∧ (tpB m0 X j).2 < 1000) := fun z => by have := z.2; omega
            refine am_q_iinc [some _, some _, none, some _, some _, some _] rfl (c := -8) rfl rfl (Nat.le_of_ble_eq_true rfl) (shI_s j (by omega)) rfl ?_
            refine am_q_goto rfl ?_
            first | exact ih (j + 1) _ _ _ (by omega) (tpI_c hkn (by omega) hinv) | exact ih (j + 1) _ _ _ (by omega) (tpN_c hfull hinv) | exact ih (j + 1) _ _ _ (by omega) (tpN_c (fun z => by rw [hkf] at z; cases z.1) hinv)
          · refine am_q_aload_n rfl rfl ?_
            refine am_q_gr rfl rfl rfl ?_
            refine am_q_aload_n rfl rfl ?_
            refine am_q_gi rfl rfl rfl hinv.2.1 ?_
            refine am_q_iload rfl rfl ?_
            refine am_q_i2c rfl (show _ = nI (byN m0 j) from by rw [pk_char, pk_tn (by omega), Nat.mod_eq_of_lt (by omega)]) ?_
            refine am_q_cast rfl rfl (by first | exact am_ix_nI (by omega) (by omega) | rfl) (decide_eq_true (pk_charN (by omega)).1) ?_
            refine am_q_aload_n rfl rfl ?_
            refine am_q_dupr rfl ?_
            refine am_q_gi rfl rfl rfl hinv.2.1 ?_
            refine am_q_iconst (v := nI 1) rfl rfl ?_
            refine am_q_iadd rfl (nI_add _ _) ?_
            refine am_q_pi rfl rfl rfl (Or.inl rfl) ?_
            refine am_q_iinc [some _, some _, none, some _, some _, some _] rfl (c := -8) rfl rfl (Nat.le_of_ble_eq_true rfl) (shI_s j (by omega)) rfl ?_
            refine am_q_goto rfl ?_
            first | exact ih (j + 1) _ _ _ (by omega) (tpI_c hkn (by omega) hinv) | exact ih (j + 1) _ _ _ (by omega) (tpN_c hfull hinv) | exact ih (j + 1) _ _ _ (by omega) (tpN_c (fun z => by rw [hkf] at z; cases z.1) hinv)

/-- StoneSecrets$Tape.addBytes(J)V -/
theorem s_addB (d : Nat) (n m0 : Nat) (hm0 : m0 < 2 ^ 64) {X : tTp} {μ : am_M2} (ν : am_N2) (hX : tpOk X) (hT : xTp μ X) : ∃ (μ' : am_M2), am_run (d + 1) 12 [.ref 3, .long (lN m0)] (am_hp n μ ν) = some (none, am_hp n μ' ν) ∧ frTp μ μ' ∧ xTp μ' (tpB m0 X 8) := by
  have key : ∃ r, am_run (d + 1) 12 [.ref 3, .long (lN m0)] (am_hp n μ ν) = some r ∧ ∃ (μ' : am_M2), r = (none, am_hp n μ' ν) ∧ frTp μ μ' ∧ xTp μ' (tpB m0 X 8) := am_run_wE (k := 12) (d := d + 0) rfl rfl (Nat.le_of_ble_eq_true rfl) [some (.ref 3), some (.long (lN m0)), none, none, none, none] rfl (by
    refine am_q_bipush (v := nI 56) rfl rfl ?_
    refine am_q_istore_n [some _, some _, none, some _, none, none] rfl (Nat.le_of_ble_eq_true rfl) rfl ?_
    exact s_addBL d n m0 hm0 ν hX 8 0 μ none none (by omega) ⟨fun i _ _ => rfl, hT⟩)
  obtain ⟨r, h1, μ', h2, h3⟩ := key
  exact ⟨μ', by rw [h1, h2], h3⟩

theorem tpI_m {μ μ1 : am_M2} {X : tTp} {b : Nat} (hb : knB b = true) (hl : X.2 < 1000) (h : frMt μ μ1 ∧ mTp μ1 X) : frMt μ (am_up (am_up μ1 134 X.2 (nI b)) 133 2 (nI (X.2 + 1))) ∧ mTp (am_up (am_up μ1 134 X.2 (nI b)) 133 2 (nI (X.2 + 1))) (tpS X b) := by
  unfold tpS
  rw [if_pos ⟨hb, hl⟩]
  refine ⟨fun i k a b => by rw [am_up_ne (by omega), am_up_ne (by omega), h.1 i k a b], ⟨am_up_eq, fun j hj => ?_⟩⟩
  have hj : j < X.2 + 1 := hj
  show _ = nI (fup X.1 X.2 b j)
  unfold fup
  by_cases e : j = X.2
  · rw [if_pos e, am_up_ne (by omega), e, am_up_eq]
  · rw [if_neg e, am_up_ne (by omega), am_up_ne (by omega)]; exact h.2.2 j (by omega)
theorem tpN_m {μ μ1 : am_M2} {X : tTp} {b : Nat} (hb : ¬ (knB b = true ∧ X.2 < 1000)) (h : frMt μ μ1 ∧ mTp μ1 X) : frMt μ μ1 ∧ mTp μ1 (tpS X b) := by
  unfold tpS
  rw [if_neg hb]; exact h
theorem m_layBL (d n m0 : Nat) (hm0 : m0 < 2 ^ 64) {X : tTp} {μ : am_M2} (ν : am_N2) (hX : tpOk X) : ∀ (m j : Nat) (μ1 : am_M2) (o4 : Option Value), j + m = 8 → frMt μ μ1 ∧ mTp μ1 (tpB m0 X j) → am_w (d + 0) (Option.none : Option FieldType) am_g179 3 [some (.ref 133), some (.long (lN m0)), none, some (.int (shI j)), o4] [] (am_hp n μ1 ν) (fun y => ∃ μ', y = (none, am_hp n μ' ν) ∧ frMt μ μ' ∧ mTp μ' (tpB m0 X 8)) := by
  intro m
  induction m with
  | zero =>
    intro j μ1 o4 hj hinv
    have hjj : j = 8 := by omega
    subst hjj
    refine am_q_iload_n rfl rfl ?_
    refine am_q_if_lt rfl (fun c_4 => ?_) (fun c_4 => absurd (show shI 8 < 0 by decide) c_4)
    refine am_q_return rfl rfl ?_
    exact ⟨_, rfl, hinv⟩
  | succ m ih =>
    intro j μ1 o4 hj hinv
    have hok := tpB_ok (m := m0) hX j
    have hl1000 := hok.1
    have hb256 : byN m0 j < 256 := Nat.mod_lt _ (by decide)
    have hjp := shI_p j (by omega)
    refine am_q_iload_n rfl rfl ?_
    refine am_q_if_lt rfl (fun c_4 => absurd c_4 hjp.1) (fun c_4 => ?_)
    refine am_q_lload_n rfl rfl ?_
    refine am_q_iload_n rfl rfl ?_
    refine am_q_lshr rfl rfl ?_
    refine am_q_l2i rfl rfl ?_
    refine am_q_sipush (v := nI 255) rfl rfl ?_
    refine am_q_iand rfl (show _ = nI (byN m0 j) from by rw [(shI_p j (by omega)).2]; exact (by_m m0 (56 - 8 * j) (by omega)).trans (by rw [Nat.mod_eq_of_lt hm0]; rfl)) ?_
    refine am_q_istore [some _, some _, none, some _, some _] rfl (Nat.le_of_ble_eq_true rfl) rfl ?_
    refine am_q_iload rfl rfl ?_
    refine am_q_bipush (v := nI 10) rfl rfl ?_
    refine am_q_ieqN rfl (by omega) (by omega) (fun c_21 => ?_) (fun c_21 => ?_)
    · have hkn : knB (byN m0 j) = true := by unfold knB; rw [decide_eq_true c_21]; rfl
      refine am_q_aload_n rfl rfl ?_
      refine am_q_gi rfl rfl rfl hinv.2.1 ?_
      refine am_q_sipush (v := nI 1000) rfl rfl ?_
      refine am_q_igeN rfl (by omega) (by omega) (fun c_45 => ?_) (fun c_45 => ?_)
      · have hfull : ¬ (knB (byN m0 j) = true ∧ (tpB m0 X j).2 < 1000) := fun z => by have := z.2; omega
        refine am_q_iinc [some _, some _, none, some _, some _] rfl (c := -8) rfl rfl (Nat.le_of_ble_eq_true rfl) (shI_s j (by omega)) rfl ?_
        refine am_q_goto rfl ?_
        first | exact ih (j + 1) _ _ (by omega) (tpI_m hkn (by omega) hinv) | exact ih (j + 1) _ _ (by omega) (tpN_m hfull hinv) | exact ih (j + 1) _ _ (by omega) (tpN_m (fun z => by rw [hkf] at z; cases z.1) hinv)
      · refine am_q_aload_n rfl rfl ?_
        refine am_q_gr rfl rfl rfl ?_
        refine am_q_aload_n rfl rfl ?_
        refine am_q_gi rfl rfl rfl hinv.2.1 ?_
        refine am_q_iload rfl rfl ?_
        refine am_q_iast rfl rfl (by first | exact am_ix_nI (by omega) (by omega) | rfl) rfl ?_
        refine am_q_aload_n rfl rfl ?_
        refine am_q_dupr rfl ?_
        refine am_q_gi rfl rfl rfl hinv.2.1 ?_
        refine am_q_iconst (v := nI 1) rfl rfl ?_
        refine am_q_iadd rfl (nI_add _ _) ?_
        refine am_q_pi rfl rfl rfl (Or.inl rfl) ?_
        refine am_q_iinc [some _, some _, none, some _, some _] rfl (c := -8) rfl rfl (Nat.le_of_ble_eq_true rfl) (shI_s j (by omega)) rfl ?_
        refine am_q_goto rfl ?_
        first | exact ih (j + 1) _ _ (by omega) (tpI_m hkn (by omega) hinv) | exact ih (j + 1) _ _ (by omega) (tpN_m hfull hinv) | exact ih (j + 1) _ _ (by omega) (tpN_m (fun z => by rw [hkf] at z; cases z.1) hinv)
    · refine am_q_iload rfl rfl ?_
      refine am_q_bipush (v := nI 32) rfl rfl ?_
      refine am_q_iltN rfl (by omega) (by omega) (fun c_28 => ?_) (fun c_28 => ?_)
      · have hkf : knB (byN m0 j) = false := by unfold knB; rw [decide_eq_false c_21, decide_eq_false (by omega)]; rfl
        refine am_q_iinc [some _, some _, none, some _, some _] rfl (c := -8) rfl rfl (Nat.le_of_ble_eq_true rfl) (shI_s j (by omega)) rfl ?_
        refine am_q_goto rfl ?_
        first | exact ih (j + 1) _ _ (by omega) (tpI_m hkn (by omega) hinv) | exact ih (j + 1) _ _ (by omega) (tpN_m hfull hinv) | exact ih (j + 1) _ _ (by omega) (tpN_m (fun z => by rw [hkf] at z; cases z.1) hinv)
      · refine am_q_iload rfl rfl ?_
        refine am_q_bipush (v := nI 126) rfl rfl ?_
        refine am_q_igtN rfl (by omega) (by omega) (fun c_35 => ?_) (fun c_35 => ?_)
        · have hkf : knB (byN m0 j) = false := by unfold knB; rw [decide_eq_false c_21, decide_eq_false (show ¬ byN m0 j ≤ 126 by omega), Bool.and_false]; rfl
          refine am_q_iinc [some _, some _, none, some _, some _] rfl (c := -8) rfl rfl (Nat.le_of_ble_eq_true rfl) (shI_s j (by omega)) rfl ?_
          refine am_q_goto rfl ?_
          first | exact ih (j + 1) _ _ (by omega) (tpI_m hkn (by omega) hinv) | exact ih (j + 1) _ _ (by omega) (tpN_m hfull hinv) | exact ih (j + 1) _ _ (by omega) (tpN_m (fun z => by rw [hkf] at z; cases z.1) hinv)
        · have hkn : knB (byN m0 j) = true := by unfold knB; rw [decide_eq_true (show 32 ≤ byN m0 j by omega), decide_eq_true (show byN m0 j ≤ 126 by omega), Bool.and_true, Bool.or_true]
          refine am_q_aload_n rfl rfl ?_
          refine am_q_gi rfl rfl rfl hinv.2.1 ?_
          refine am_q_sipush (v := nI 1000) rfl rfl ?_
          refine am_q_igeN rfl (by omega) (by omega) (fun c_45 => ?_) (fun c_45 => ?_)
          · have hfull : ¬ (knB (byN m0 j) = true ∧ (tpB m0 X j).2 < 1000) := fun z => by have := z.2; omega
            refine am_q_iinc [some _, some _, none, some _, some _] rfl (c := -8) rfl rfl (Nat.le_of_ble_eq_true rfl) (shI_s j (by omega)) rfl ?_
            refine am_q_goto rfl ?_
            first | exact ih (j + 1) _ _ (by omega) (tpI_m hkn (by omega) hinv) | exact ih (j + 1) _ _ (by omega) (tpN_m hfull hinv) | exact ih (j + 1) _ _ (by omega) (tpN_m (fun z => by rw [hkf] at z; cases z.1) hinv)
          · refine am_q_aload_n rfl rfl ?_
            refine am_q_gr rfl rfl rfl ?_
            refine am_q_aload_n rfl rfl ?_
            refine am_q_gi rfl rfl rfl hinv.2.1 ?_
            refine am_q_iload rfl rfl ?_
            refine am_q_iast rfl rfl (by first | exact am_ix_nI (by omega) (by omega) | rfl) rfl ?_
            refine am_q_aload_n rfl rfl ?_
            refine am_q_dupr rfl ?_
            refine am_q_gi rfl rfl rfl hinv.2.1 ?_
            refine am_q_iconst (v := nI 1) rfl rfl ?_
            refine am_q_iadd rfl (nI_add _ _) ?_
            refine am_q_pi rfl rfl rfl (Or.inl rfl) ?_
            refine am_q_iinc [some _, some _, none, some _, some _] rfl (c := -8) rfl rfl (Nat.le_of_ble_eq_true rfl) (shI_s j (by omega)) rfl ?_
            refine am_q_goto rfl ?_
            first | exact ih (j + 1) _ _ (by omega) (tpI_m hkn (by omega) hinv) | exact ih (j + 1) _ _ (by omega) (tpN_m hfull hinv) | exact ih (j + 1) _ _ (by omega) (tpN_m (fun z => by rw [hkf] at z; cases z.1) hinv)

/-- StoneSecretsModel.lay(J)V -/
theorem m_layB (d : Nat) (n m0 : Nat) (hm0 : m0 < 2 ^ 64) {X : tTp} {μ : am_M2} (ν : am_N2) (hX : tpOk X) (hT : mTp μ X) : ∃ (μ' : am_M2), am_run (d + 1) 179 [.ref 133, .long (lN m0)] (am_hp n μ ν) = some (none, am_hp n μ' ν) ∧ frMt μ μ' ∧ mTp μ' (tpB m0 X 8) := by
  have key : ∃ r, am_run (d + 1) 179 [.ref 133, .long (lN m0)] (am_hp n μ ν) = some r ∧ ∃ (μ' : am_M2), r = (none, am_hp n μ' ν) ∧ frMt μ μ' ∧ mTp μ' (tpB m0 X 8) := am_run_wE (k := 179) (d := d + 0) rfl rfl (Nat.le_of_ble_eq_true rfl) [some (.ref 133), some (.long (lN m0)), none, none, none] rfl (by
    refine am_q_bipush (v := nI 56) rfl rfl ?_
    refine am_q_istore_n [some _, some _, none, some _, none] rfl (Nat.le_of_ble_eq_true rfl) rfl ?_
    exact m_layBL d n m0 hm0 ν hX 8 0 μ none (by omega) ⟨fun i k _ _ => rfl, hT⟩)
  obtain ⟨r, h1, μ', h2, h3⟩ := key
  exact ⟨μ', by rw [h1, h2], h3⟩

def fdX (X : tTp) (a b c : Nat) : tTp := tpB c (tpB b (tpB a X 8) 8) 8
theorem fdX_ok {X : tTp} {a b c : Nat} (h : tpOk X) : tpOk (fdX X a b c) := tpB_ok (tpB_ok (tpB_ok h 8) 8) 8
/-- StoneSecrets.feed(JJJ)I -/
theorem x_feed (d : Nat) (n a b c : Nat) (ha : a < 2 ^ 64) (hb : b < 2 ^ 64) (hc : c < 2 ^ 64) {X : tTp} {μ : am_M2} (ν : am_N2) (hX : tpOk X) (hT : xTp μ X) : ∃ (μ' : am_M2), am_run (d + 2) 11 [.ref 2, .long (lN a), .long (lN b), .long (lN c)] (am_hp n μ ν) = some (some (.int (nI (fdX X a b c).2)), am_hp n μ' ν) ∧ frTp μ μ' ∧ xTp μ' (fdX X a b c) := by
  have key : ∃ r, am_run (d + 2) 11 [.ref 2, .long (lN a), .long (lN b), .long (lN c)] (am_hp n μ ν) = some r ∧ ∃ (μ' : am_M2), r = (some (.int (nI (fdX X a b c).2)), am_hp n μ' ν) ∧ frTp μ μ' ∧ xTp μ' (fdX X a b c) := am_run_wE (k := 11) (d := d + 1) rfl rfl (Nat.le_of_ble_eq_true rfl) [some (.ref 2), some (.long (lN a)), none, some (.long (lN b)), none, some (.long (lN c)), none] rfl (by
    refine am_q_aload_n rfl rfl ?_
    refine am_q_gr rfl rfl rfl ?_
    refine am_q_lload_n rfl rfl ?_
    obtain ⟨μ1, hc1, hf1, hT1⟩ := s_addB _ n a ha ν hX hT
    refine am_q_call rfl rfl (hc1) rfl ?_
    refine am_q_aload_n rfl rfl ?_
    refine am_q_gr rfl rfl rfl ?_
    refine am_q_lload_n rfl rfl ?_
    obtain ⟨μ2, hc2, hf2, hT2⟩ := s_addB _ n b hb ν (tpB_ok hX 8) hT1
    refine am_q_call rfl rfl (hc2) rfl ?_
    refine am_q_aload_n rfl rfl ?_
    refine am_q_gr rfl rfl rfl ?_
    refine am_q_lload rfl rfl ?_
    obtain ⟨μ3, hc3, hf3, hT3⟩ := s_addB _ n c hc ν (tpB_ok (tpB_ok hX 8) 8) hT2
    refine am_q_call rfl rfl (hc3) rfl ?_
    refine am_q_aload_n rfl rfl ?_
    refine am_q_gr rfl rfl rfl ?_
    refine am_q_gi rfl rfl rfl hT3.1 ?_
    refine am_q_ireturn rfl rfl rfl ?_
    exact ⟨_, rfl, fun i p q => ((hf3 i p q).trans (hf2 i p q)).trans (hf1 i p q), hT3⟩)
  obtain ⟨r, h1, μ', h2, h3⟩ := key
  exact ⟨μ', by rw [h1, h2], h3⟩

/-- StoneSecretsModel.feed(JJJ)I -/
theorem m_feed (d : Nat) (n a b c : Nat) (ha : a < 2 ^ 64) (hb : b < 2 ^ 64) (hc : c < 2 ^ 64) {X : tTp} {μ : am_M2} (ν : am_N2) (hX : tpOk X) (hT : mTp μ X) : ∃ (μ' : am_M2), am_run (d + 2) 178 [.ref 133, .long (lN a), .long (lN b), .long (lN c)] (am_hp n μ ν) = some (some (.int (nI (fdX X a b c).2)), am_hp n μ' ν) ∧ frMt μ μ' ∧ mTp μ' (fdX X a b c) := by
  have key : ∃ r, am_run (d + 2) 178 [.ref 133, .long (lN a), .long (lN b), .long (lN c)] (am_hp n μ ν) = some r ∧ ∃ (μ' : am_M2), r = (some (.int (nI (fdX X a b c).2)), am_hp n μ' ν) ∧ frMt μ μ' ∧ mTp μ' (fdX X a b c) := am_run_wE (k := 178) (d := d + 1) rfl rfl (Nat.le_of_ble_eq_true rfl) [some (.ref 133), some (.long (lN a)), none, some (.long (lN b)), none, some (.long (lN c)), none] rfl (by
    refine am_q_aload_n rfl rfl ?_
    refine am_q_iconst (v := nI 0) rfl rfl ?_
    refine am_q_pi rfl rfl rfl (Or.inl rfl) ?_
    refine am_q_aload_n rfl rfl ?_
    refine am_q_lload_n rfl rfl ?_
    have hT0 : mTp (am_up μ 133 0 (nI 0)) X := ⟨(am_up_ne (by omega)).trans hT.1, fun j hj => (am_up_ne (by omega)).trans (hT.2 j hj)⟩
    obtain ⟨μ1, hc1, hf1, hT1⟩   := m_layB _ n a ha ν hX hT0
    refine am_q_call rfl rfl (hc1) rfl ?_
    refine am_q_aload_n rfl rfl ?_
    refine am_q_lload_n rfl rfl ?_
    obtain ⟨μ2, hc2, hf2, hT2⟩ := m_layB _ n b hb ν (tpB_ok hX 8) hT1
    refine am_q_call rfl rfl (hc2) rfl ?_
    refine am_q_aload_n rfl rfl ?_
    refine am_q_lload rfl rfl ?_
    obtain ⟨μ3, hc3, hf3, hT3⟩ := m_layB _ n c hc ν (tpB_ok (tpB_ok hX 8) 8) hT2
    refine am_q_call rfl rfl (hc3) rfl ?_
    refine am_q_aload_n rfl rfl ?_
    refine am_q_gi rfl rfl rfl hT3.1 ?_
    refine am_q_ireturn rfl rfl rfl ?_
    exact ⟨_, rfl, fun i k p q => ((hf3 i k p q).trans (hf2 i k p q)).trans ((hf1 i k p q).trans (am_up_ne (by omega))), hT3⟩)
  obtain ⟨r, h1, μ', h2, h3⟩ := key
  exact ⟨μ', by rw [h1, h2], h3⟩
