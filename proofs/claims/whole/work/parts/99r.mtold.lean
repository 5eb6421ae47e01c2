def naF (nm : Nat → Nat) (w : Nat) : Nat → Option Nat := lpF (fun j x => if nm j = w then some j else x) none
theorem naF_s (nm : Nat → Nat) (w j : Nat) : naF nm w (j + 1) = if nm j = w then some j else naF nm w j := rfl
theorem naF_lt {nm : Nat → Nat} {w : Nat} : ∀ m j, naF nm w m = some j → j < m ∧ nm j = w
  | 0, j, h => by cases h
  | m + 1, j, h => by
    rw [naF_s] at h
    split at h
    · rename_i c; injection h with h; rw [← h]; exact ⟨Nat.lt_succ_self _, c⟩
    · obtain ⟨x, y⟩ := naF_lt m j h; exact ⟨by omega, y⟩
theorem naF_no {nm : Nat → Nat} {w : Nat} : ∀ m, naF nm w m = none → ∀ j, j < m → nm j ≠ w
  | 0, _, j, hj => absurd hj (Nat.not_lt_zero _)
  | m + 1, h, j, hj => by
    rw [naF_s] at h
    split at h
    · cases h
    · rename_i c
      by_cases e : j = m
      · rw [e]; exact c
      · exact naF_no m h j (by omega)
theorem naF_fnd {nm : Nat → Nat} {w N : Nat} (hd : ∀ s t, s < N → t < N → nm s = nm t → s = t) : naF nm w N = fnd nm N w := by
  cases h : naF nm w N with
  | none =>
    cases h2 : fnd nm N w with
    | none => rfl
    | some s => obtain ⟨a, b⟩ := fnd_lt h2; exact absurd b (naF_no N h s a)
  | some j =>
    obtain ⟨a, b⟩ := naF_lt N j h
    cases h2 : fnd nm N w with
    | none => exact absurd b (fnd_no (by rw [h2]; exact Bool.false_ne_true) j a)
    | some s => obtain ⟨x, y⟩ := fnd_lt h2; rw [hd j s a x (b.trans y.symm)]
def mNmR (ν : am_N2) (b : Nat) (nm : Nat → Nat) (N : Nat) : Prop := (∀ s, s < N → ν 141 (b + s) = lN (cw (nm s)) ∧ wfW (nm s)) ∧ ∀ s t, s < N → t < N → nm s = nm t → s = t
theorem na_eq {X : tTp} {i w : Nat} (hk : kd X i = 2) (hw : wfW w) : lN (cw w) = lN (cw (wd X i)) ↔ w = wd X i :=
  ⟨fun h => cw_inj hw (wd_wf hk) ((pk_lEQ (cw_63 _) (cw_63 _)).mp h), fun h => by rw [h]⟩
theorem sh_b1 : ∀ m, m < 64 → ∀ s, s < 6 → nI m >>> (nI s &&& 31) = nI (m >>> s) := by decide +kernel
theorem sh_b2 : ∀ m, m < 64 → ∀ s, s < 6 → (((m >>> s) &&& 1 = 1) ↔ m.testBit s = true) := by decide +kernel
theorem wr_b {X : tTp} (hX : tpOk X) (i : Nat) {k : Nat} (hk : 0 < k) (hk2 : k < 10) : 0 < wr X i k ∧ wr X i k < 2 ^ 20 := by
  have := pl_1k hX i
  unfold wr; omega
theorem tn_lo {v lo : Nat} (hv : v < 10000) (hl : lo < 2 ^ 20) : lg_cmp (lN v) ((nI lo).toInt64) < 0 ↔ v < lo := by
  rw [lg_cmp_lt, nI_l (by omega), lN_lt (by omega) (by omega)]
theorem tn_hi {v : Nat} {hi : Int32} (hv : v < 10000) : lg_cmp (lN v) (hi.toInt64) ≤ 0 ↔ ¬ hi < nI v := by
  rw [lg_cmp_le, ← nI_l (by omega), Int64.le_iff_toInt_le, Int32.toInt_toInt64, Int32.toInt_toInt64, Int32.not_lt, Int32.le_iff_toInt_le]
def mRs (μ : am_M2) (i : Nat) (r : Nat ⊕ Nat) : am_M2 := match r with
  | .inl c => am_up μ 133 8 (nI c)
  | .inr _ => am_up μ 133 7 (nI (i + 1))
def mRv (r : Nat ⊕ Nat) : Nat := match r with
  | .inl _ => 0
  | .inr v => v
def tolM (X : tTp) (nm : Nat → Nat) (N i k : Nat) : Nat ⊕ Nat := match pTold X nm N i with
  | .inl c => .inl c
  | .inr s => if k.testBit s = true then .inl (wr X i 3) else .inr s
theorem m_naL (d : Nat) (n i : Nat) {X : tTp} {μ : am_M2} (ν : am_N2) (hX : tpOk X) (hP : mP μ ν X i) (b N : Nat) (hbN : b + N ≤ 12) (hN6 : N ≤ 6) {nm : Nat → Nat} (hn : mNmR ν b nm N) (hk : kd X i = 2) : ∀ (m j : Nat) , j + m = N → am_w (d + 0) (Option.some FieldType.int) am_g196 5 [some (.ref 133), some (.int (nI b)), some (.int (nI N)), some (.int (oI (naF nm (wd X i) j))), some (.int (nI j))] [] (am_hp n μ ν) (fun r => r = (some (.int (oI (naF nm (wd X i) N))), am_hp n μ ν)) := by
  intro m
  induction m with
  | zero =>
    intro j  hj
    have hN := tN_1k hX
    obtain ⟨hT, hG, hA, hF, hi⟩ := hP
    obtain ⟨t1, t2, t3, t4, t5⟩ := hT i hi
    have hkc := mS_c (kd_le X i)
    have hk4 := kd_le X i
    have hpl := pl_1k hX i
    refine am_q_iload rfl rfl ?_
    refine am_q_iload_n rfl rfl ?_
    refine am_q_igeN rfl (by omega) (by omega) (fun c_8 => ?_) (fun c_8 => absurd c_8 (by omega))
    refine am_q_iload_n rfl rfl ?_
    refine am_q_ireturn rfl rfl rfl ?_
    have e : j = N := by omega
    subst e
    rfl
  | succ m ih =>
    intro j  hj
    have hN := tN_1k hX
    obtain ⟨hT, hG, hA, hF, hi⟩ := hP
    obtain ⟨t1, t2, t3, t4, t5⟩ := hT i hi
    have hkc := mS_c (kd_le X i)
    have hk4 := kd_le X i
    have hpl := pl_1k hX i
    refine am_q_iload rfl rfl ?_
    refine am_q_iload_n rfl rfl ?_
    refine am_q_igeN rfl (by omega) (by omega) (fun c_8 => absurd c_8 (by omega)) (fun c_8 => ?_)
    refine am_q_aload_n rfl rfl ?_
    refine am_q_gr rfl rfl rfl ?_
    refine am_q_iload_n rfl rfl ?_
    refine am_q_iload rfl rfl ?_
    refine am_q_iadd rfl (nI_add _ _) ?_
    refine am_q_lald rfl rfl (am_ix_nI (show b + j < 12 by omega) (by decide)) (hn.1 j (by omega)).1 ?_
    refine am_q_aload_n rfl rfl ?_
    refine am_q_gr rfl rfl rfl ?_
    refine am_q_aload_n rfl rfl ?_
    refine am_q_gi rfl rfl rfl hA ?_
    refine am_q_lald rfl rfl (am_ix_nI (show i < 1002 by omega) (by decide)) (t3 hk) ?_
    refine am_q_lcmp rfl rfl ?_
    refine am_q_if_ne rfl (fun c_30 => ?_) (fun c_30 => ?_)
    · refine am_q_iload_n rfl rfl ?_
      refine am_q_istore_n [some _, some _, some _, some _, some _] rfl (Nat.le_of_ble_eq_true rfl) rfl ?_
      refine am_q_iinc [some _, some _, some _, some _, some _] rfl (c := nI 1) rfl rfl (Nat.le_of_ble_eq_true rfl) (nI_add _ _) rfl ?_
      refine am_q_goto rfl ?_
      have e := naF_s nm (wd X i) j
      first
      | (rw [if_pos ((na_eq hk (hn.1 j (by omega)).2).mp (lg0.mp c_30))] at e; have g := ih (j + 1) (by omega); rw [e] at g; exact g)
      | (rw [if_neg (fun z => c_30 (lg0.mpr ((na_eq hk (hn.1 j (by omega)).2).mpr z)))] at e; have g := ih (j + 1) (by omega); rw [e] at g; exact g)
    · refine am_q_iload rfl rfl ?_
      refine am_q_goto rfl ?_
      refine am_q_istore_n [some _, some _, some _, some _, some _] rfl (Nat.le_of_ble_eq_true rfl) rfl ?_
      refine am_q_iinc [some _, some _, some _, some _, some _] rfl (c := nI 1) rfl rfl (Nat.le_of_ble_eq_true rfl) (nI_add _ _) rfl ?_
      refine am_q_goto rfl ?_
      have e := naF_s nm (wd X i) j
      first
      | (rw [if_pos ((na_eq hk (hn.1 j (by omega)).2).mp (lg0.mp c_30))] at e; have g := ih (j + 1) (by omega); rw [e] at g; exact g)
      | (rw [if_neg (fun z => c_30 (lg0.mpr ((na_eq hk (hn.1 j (by omega)).2).mpr z)))] at e; have g := ih (j + 1) (by omega); rw [e] at g; exact g)

/-- StoneSecretsModel.nameAt(II)I -/
theorem m_nameAt0 (d : Nat) (n i : Nat) {X : tTp} {μ : am_M2} (ν : am_N2) (hX : tpOk X) (hP : mP μ ν X i) (b N : Nat) (hbN : b + N ≤ 12) (hN6 : N ≤ 6) {nm : Nat → Nat} (hn : mNmR ν b nm N) (hk : kd X i = 2) : am_run (d + 1) 196 [.ref 133, .int (nI b), .int (nI N)] (am_hp n μ ν) = some (some (.int (oI (naF nm (wd X i) N))), am_hp n μ ν) := by
  refine am_r196 (d := d + 0) (Nat.le_of_ble_eq_true rfl) [some (.ref 133), some (.int (nI b)), some (.int (nI N)), none, none] rfl ?_
  refine am_q_iconst (v := -1) rfl rfl ?_
  refine am_q_istore_n [some _, some _, some _, some _, none] rfl (Nat.le_of_ble_eq_true rfl) rfl ?_
  refine am_q_iconst (v := nI 0) rfl rfl ?_
  refine am_q_istore [some _, some _, some _, some _, some _] rfl (Nat.le_of_ble_eq_true rfl) rfl ?_
  exact m_naL d n i ν hX hP b N hbN hN6 hn hk N 0 (by omega)

/-- StoneSecretsModel.takeTold(III)I -/
theorem m_told_a (d : Nat) (n i : Nat) {X : tTp} {μ : am_M2} (ν : am_N2) (hX : tpOk X) (hP : mP μ ν X i) (b N : Nat) (hbN : b + N ≤ 12) (hN6 : N ≤ 6) {nm : Nat → Nat} (hn : mNmR ν b nm N) (k : Nat) (hk64 : k < 64) (hm : isNm X i = false) : am_run (d + 4) 202 [.ref 133, .int (nI b), .int (nI N), .int (nI k)] (am_hp n μ ν) = some (some (.int (nI 0)), am_hp n (am_up μ 133 8 (nI (wr X i 1))) ν) := by
  have hP0 := hP
  have hN := tN_1k hX
  obtain ⟨hT, hG, hA, hF, hi⟩ := hP
  obtain ⟨t1, t2, t3, t4, t5⟩ := hT i hi
  have hkc := mS_c (kd_le X i)
  have hk4 := kd_le X i
  have hpl := pl_1k hX i
  obtain ⟨w0, w1⟩ := wr_b hX i (k := 1) (by decide) (by decide)
  refine am_r202 (d := d + 3) (Nat.le_of_ble_eq_true rfl) [some (.ref 133), some (.int (nI b)), some (.int (nI N)), some (.int (nI k)), none] rfl ?_
  refine am_q_aload_n rfl rfl ?_
  refine am_q_gi rfl rfl rfl hF ?_
  refine am_q_zneN rfl (by omega) (fun c_4 => absurd c_4 (by omega)) (fun c_4 => ?_)
  refine am_q_aload_n rfl rfl ?_
  refine am_q_call rfl rfl (m_isName0 _ n i ν hX hP0) rfl ?_
  refine am_q_if_neB rfl (fun c_11 => by rw [hm] at c_11; cases c_11) (fun c_11 => ?_)
  refine am_q_aload_n rfl rfl ?_
  refine am_q_iconst (v := nI 1) rfl rfl ?_
  refine am_q_call rfl rfl (m_wrong0 _ 1 n i ν hX hP0) rfl ?_
  refine am_q_aload_n rfl rfl ?_
  refine am_q_gi rfl rfl rfl am_up_eq ?_
  refine am_q_zleN rfl (by omega) (fun c_23 => absurd c_23 (by omega)) (fun c_23 => ?_)
  refine am_q_iconst (v := -1) rfl rfl ?_
  refine am_q_goto rfl ?_
  refine am_q_istore [some _, some _, some _, some _, some _] rfl (Nat.le_of_ble_eq_true rfl) rfl ?_
  refine am_q_aload_n rfl rfl ?_
  refine am_q_gi rfl rfl rfl am_up_eq ?_
  refine am_q_zneN rfl (by omega) (fun c_42 => ?_) (fun c_42 => absurd c_42 (by omega))
  refine am_q_aload_n rfl rfl ?_
  refine am_q_gi rfl rfl rfl am_up_eq ?_
  refine am_q_zneN rfl (by omega) (fun c_62 => ?_) (fun c_62 => absurd c_62 (by omega))
  refine am_q_aload_n rfl rfl ?_
  refine am_q_dupr rfl ?_
  refine am_q_gi rfl rfl rfl ((am_up_ne (by omega)).trans hA) ?_
  refine am_q_aload_n rfl rfl ?_
  refine am_q_gi rfl rfl rfl am_up_eq ?_
  refine am_q_zleN rfl (by omega) (fun c_89 => absurd c_89 (by omega)) (fun c_89 => ?_)
  refine am_q_iconst (v := nI 0) rfl rfl ?_
  refine am_q_goto rfl ?_
  refine am_q_iadd rfl (nI_add _ _) ?_
  refine am_q_pi rfl rfl rfl (Or.inl rfl) ?_
  refine am_q_aload_n rfl rfl ?_
  refine am_q_gi rfl rfl rfl ((am_up_ne (by omega)).trans am_up_eq) ?_
  refine am_q_zleN rfl (by omega) (fun c_105 => absurd c_105 (by omega)) (fun c_105 => ?_)
  refine am_q_iconst (v := nI 0) rfl rfl ?_
  refine am_q_goto rfl ?_
  refine am_q_ireturn rfl rfl rfl ?_
  exact congrArg (fun z => (some (Value.int (nI 0)), am_hp n z ν)) (am_up_same (v := nI (i + 0)) ((am_up_ne (by omega)).trans hA))

/-- StoneSecretsModel.takeTold(III)I -/
theorem m_told_b (d : Nat) (n i : Nat) {X : tTp} {μ : am_M2} (ν : am_N2) (hX : tpOk X) (hP : mP μ ν X i) (b N : Nat) (hbN : b + N ≤ 12) (hN6 : N ≤ 6) {nm : Nat → Nat} (hn : mNmR ν b nm N) (k : Nat) (hk64 : k < 64) (hm : isNm X i = true) (hna : naF nm (wd X i) N = none) : am_run (d + 4) 202 [.ref 133, .int (nI b), .int (nI N), .int (nI k)] (am_hp n μ ν) = some (some (.int (nI 0)), am_hp n (am_up μ 133 8 (nI (wr X i 2))) ν) := by
  have hP0 := hP
  have hN := tN_1k hX
  obtain ⟨hT, hG, hA, hF, hi⟩ := hP
  obtain ⟨t1, t2, t3, t4, t5⟩ := hT i hi
  have hkc := mS_c (kd_le X i)
  have hk4 := kd_le X i
  have hpl := pl_1k hX i
  obtain ⟨w0, w1⟩ := wr_b hX i (k := 2) (by decide) (by decide)
  refine am_r202 (d := d + 3) (Nat.le_of_ble_eq_true rfl) [some (.ref 133), some (.int (nI b)), some (.int (nI N)), some (.int (nI k)), none] rfl ?_
  refine am_q_aload_n rfl rfl ?_
  refine am_q_gi rfl rfl rfl hF ?_
  refine am_q_zneN rfl (by omega) (fun c_4 => absurd c_4 (by omega)) (fun c_4 => ?_)
  refine am_q_aload_n rfl rfl ?_
  refine am_q_call rfl rfl (m_isName0 _ n i ν hX hP0) rfl ?_
  refine am_q_if_neB rfl (fun c_11 => ?_) (fun c_11 => by rw [hm] at c_11; cases c_11)
  refine am_q_aload_n rfl rfl ?_
  refine am_q_gi rfl rfl rfl hF ?_
  refine am_q_zleN rfl (by omega) (fun c_23 => ?_) (fun c_23 => absurd c_23 (by omega))
  refine am_q_aload_n rfl rfl ?_
  refine am_q_iload_n rfl rfl ?_
  refine am_q_iload_n rfl rfl ?_
  refine am_q_call rfl rfl ((m_nameAt0 _ n i ν hX hP0 b N hbN hN6 hn (nm_k hm)).trans (show some (some (Value.int (oI (naF nm (wd X i) N))), am_hp n μ ν) = some (some (Value.int (-1)), am_hp n μ ν) by rw [hna]; first | done | rfl)) rfl ?_
  refine am_q_istore [some _, some _, some _, some _, some _] rfl (Nat.le_of_ble_eq_true rfl) rfl ?_
  refine am_q_aload_n rfl rfl ?_
  refine am_q_gi rfl rfl rfl hF ?_
  refine am_q_zneN rfl (by omega) (fun c_42 => absurd c_42 (by omega)) (fun c_42 => ?_)
  refine am_q_iload rfl rfl ?_
  refine am_q_if_ge rfl (fun c_47 => absurd c_47 (by decide)) (fun c_47 => ?_)
  refine am_q_aload_n rfl rfl ?_
  refine am_q_iconst (v := nI 2) rfl rfl ?_
  refine am_q_call rfl rfl (m_wrong0 _ 2 n i ν hX hP0) rfl ?_
  refine am_q_goto rfl ?_
  refine am_q_aload_n rfl rfl ?_
  refine am_q_dupr rfl ?_
  refine am_q_gi rfl rfl rfl ((am_up_ne (by omega)).trans hA) ?_
  refine am_q_aload_n rfl rfl ?_
  refine am_q_gi rfl rfl rfl am_up_eq ?_
  refine am_q_zleN rfl (by omega) (fun c_89 => absurd c_89 (by omega)) (fun c_89 => ?_)
  refine am_q_iconst (v := nI 0) rfl rfl ?_
  refine am_q_goto rfl ?_
  refine am_q_iadd rfl (nI_add _ _) ?_
  refine am_q_pi rfl rfl rfl (Or.inl rfl) ?_
  refine am_q_aload_n rfl rfl ?_
  refine am_q_gi rfl rfl rfl ((am_up_ne (by omega)).trans am_up_eq) ?_
  refine am_q_zleN rfl (by omega) (fun c_105 => absurd c_105 (by omega)) (fun c_105 => ?_)
  refine am_q_iconst (v := nI 0) rfl rfl ?_
  refine am_q_goto rfl ?_
  refine am_q_ireturn rfl rfl rfl ?_
  exact congrArg (fun z => (some (Value.int (nI 0)), am_hp n z ν)) (am_up_same (v := nI (i + 0)) ((am_up_ne (by omega)).trans hA))

/-- StoneSecretsModel.takeTold(III)I -/
theorem m_told_c (d : Nat) (n i : Nat) {X : tTp} {μ : am_M2} (ν : am_N2) (hX : tpOk X) (hP : mP μ ν X i) (b N : Nat) (hbN : b + N ≤ 12) (hN6 : N ≤ 6) {nm : Nat → Nat} (hn : mNmR ν b nm N) (k : Nat) (hk64 : k < 64) (hm : isNm X i = true) (s : Nat) (hna : naF nm (wd X i) N = some s) (hb : k.testBit s = true) : am_run (d + 4) 202 [.ref 133, .int (nI b), .int (nI N), .int (nI k)] (am_hp n μ ν) = some (some (.int (nI 0)), am_hp n (am_up μ 133 8 (nI (wr X i 3))) ν) := by
  have hP0 := hP
  have hN := tN_1k hX
  obtain ⟨hT, hG, hA, hF, hi⟩ := hP
  obtain ⟨t1, t2, t3, t4, t5⟩ := hT i hi
  have hkc := mS_c (kd_le X i)
  have hk4 := kd_le X i
  have hpl := pl_1k hX i
  obtain ⟨w0, w1⟩ := wr_b hX i (k := 3) (by decide) (by decide)
  refine am_r202 (d := d + 3) (Nat.le_of_ble_eq_true rfl) [some (.ref 133), some (.int (nI b)), some (.int (nI N)), some (.int (nI k)), none] rfl ?_
  refine am_q_aload_n rfl rfl ?_
  refine am_q_gi rfl rfl rfl hF ?_
  refine am_q_zneN rfl (by omega) (fun c_4 => absurd c_4 (by omega)) (fun c_4 => ?_)
  refine am_q_aload_n rfl rfl ?_
  refine am_q_call rfl rfl (m_isName0 _ n i ν hX hP0) rfl ?_
  refine am_q_if_neB rfl (fun c_11 => ?_) (fun c_11 => by rw [hm] at c_11; cases c_11)
  refine am_q_aload_n rfl rfl ?_
  refine am_q_gi rfl rfl rfl hF ?_
  refine am_q_zleN rfl (by omega) (fun c_23 => ?_) (fun c_23 => absurd c_23 (by omega))
  refine am_q_aload_n rfl rfl ?_
  refine am_q_iload_n rfl rfl ?_
  refine am_q_iload_n rfl rfl ?_
  have hsN := (naF_lt N s hna).1
  refine am_q_call rfl rfl ((m_nameAt0 _ n i ν hX hP0 b N hbN hN6 hn (nm_k hm)).trans (show some (some (Value.int (oI (naF nm (wd X i) N))), am_hp n μ ν) = some (some (Value.int (nI s)), am_hp n μ ν) by rw [hna]; first | done | rfl)) rfl ?_
  refine am_q_istore [some _, some _, some _, some _, some _] rfl (Nat.le_of_ble_eq_true rfl) rfl ?_
  refine am_q_aload_n rfl rfl ?_
  refine am_q_gi rfl rfl rfl hF ?_
  refine am_q_zneN rfl (by omega) (fun c_42 => absurd c_42 (by omega)) (fun c_42 => ?_)
  refine am_q_iload rfl rfl ?_
  refine am_q_zgeN rfl (by omega) (fun c_47 => ?_) (fun c_47 => absurd c_47 (by omega))
  refine am_q_aload_n rfl rfl ?_
  refine am_q_gi rfl rfl rfl hF ?_
  refine am_q_zneN rfl (by omega) (fun c_62 => absurd c_62 (by omega)) (fun c_62 => ?_)
  refine am_q_iload_n rfl rfl ?_
  refine am_q_iload rfl rfl ?_
  refine am_q_ishr rfl (sh_b1 k hk64 s (by omega)) ?_
  refine am_q_iconst (v := nI 1) rfl rfl ?_
  refine am_q_iand rfl (sn_and _ _) ?_
  refine am_q_iconst (v := nI 1) rfl rfl ?_
  refine am_q_ineN rfl (by have h2 : (k >>> s) &&& 1 ≤ 1 := Nat.and_le_right; omega) (by omega) (fun c_72 => absurd ((sh_b2 k hk64 s (by omega)).mpr hb) c_72) (fun c_72 => ?_)
  refine am_q_aload_n rfl rfl ?_
  refine am_q_iconst (v := nI 3) rfl rfl ?_
  refine am_q_call rfl rfl (m_wrong0 _ 3 n i ν hX hP0) rfl ?_
  refine am_q_aload_n rfl rfl ?_
  refine am_q_dupr rfl ?_
  refine am_q_gi rfl rfl rfl ((am_up_ne (by omega)).trans hA) ?_
  refine am_q_aload_n rfl rfl ?_
  refine am_q_gi rfl rfl rfl am_up_eq ?_
  refine am_q_zleN rfl (by omega) (fun c_89 => absurd c_89 (by omega)) (fun c_89 => ?_)
  refine am_q_iconst (v := nI 0) rfl rfl ?_
  refine am_q_goto rfl ?_
  refine am_q_iadd rfl (nI_add _ _) ?_
  refine am_q_pi rfl rfl rfl (Or.inl rfl) ?_
  refine am_q_aload_n rfl rfl ?_
  refine am_q_gi rfl rfl rfl ((am_up_ne (by omega)).trans am_up_eq) ?_
  refine am_q_zleN rfl (by omega) (fun c_105 => absurd c_105 (by omega)) (fun c_105 => ?_)
  refine am_q_iconst (v := nI 0) rfl rfl ?_
  refine am_q_goto rfl ?_
  refine am_q_ireturn rfl rfl rfl ?_
  exact congrArg (fun z => (some (Value.int (nI 0)), am_hp n z ν)) (am_up_same (v := nI (i + 0)) ((am_up_ne (by omega)).trans hA))

/-- StoneSecretsModel.takeTold(III)I -/
theorem m_told_d (d : Nat) (n i : Nat) {X : tTp} {μ : am_M2} (ν : am_N2) (hX : tpOk X) (hP : mP μ ν X i) (b N : Nat) (hbN : b + N ≤ 12) (hN6 : N ≤ 6) {nm : Nat → Nat} (hn : mNmR ν b nm N) (k : Nat) (hk64 : k < 64) (hm : isNm X i = true) (s : Nat) (hna : naF nm (wd X i) N = some s) (hb : ¬ k.testBit s = true) : am_run (d + 4) 202 [.ref 133, .int (nI b), .int (nI N), .int (nI k)] (am_hp n μ ν) = some (some (.int (nI s)), am_hp n (am_up μ 133 7 (nI (i + 1))) ν) := by
  have hP0 := hP
  have hN := tN_1k hX
  obtain ⟨hT, hG, hA, hF, hi⟩ := hP
  obtain ⟨t1, t2, t3, t4, t5⟩ := hT i hi
  have hkc := mS_c (kd_le X i)
  have hk4 := kd_le X i
  have hpl := pl_1k hX i
  refine am_r202 (d := d + 3) (Nat.le_of_ble_eq_true rfl) [some (.ref 133), some (.int (nI b)), some (.int (nI N)), some (.int (nI k)), none] rfl ?_
  refine am_q_aload_n rfl rfl ?_
  refine am_q_gi rfl rfl rfl hF ?_
  refine am_q_zneN rfl (by omega) (fun c_4 => absurd c_4 (by omega)) (fun c_4 => ?_)
  refine am_q_aload_n rfl rfl ?_
  refine am_q_call rfl rfl (m_isName0 _ n i ν hX hP0) rfl ?_
  refine am_q_if_neB rfl (fun c_11 => ?_) (fun c_11 => by rw [hm] at c_11; cases c_11)
  refine am_q_aload_n rfl rfl ?_
  refine am_q_gi rfl rfl rfl hF ?_
  refine am_q_zleN rfl (by omega) (fun c_23 => ?_) (fun c_23 => absurd c_23 (by omega))
  refine am_q_aload_n rfl rfl ?_
  refine am_q_iload_n rfl rfl ?_
  refine am_q_iload_n rfl rfl ?_
  have hsN := (naF_lt N s hna).1
  refine am_q_call rfl rfl ((m_nameAt0 _ n i ν hX hP0 b N hbN hN6 hn (nm_k hm)).trans (show some (some (Value.int (oI (naF nm (wd X i) N))), am_hp n μ ν) = some (some (Value.int (nI s)), am_hp n μ ν) by rw [hna]; first | done | rfl)) rfl ?_
  refine am_q_istore [some _, some _, some _, some _, some _] rfl (Nat.le_of_ble_eq_true rfl) rfl ?_
  refine am_q_aload_n rfl rfl ?_
  refine am_q_gi rfl rfl rfl hF ?_
  refine am_q_zneN rfl (by omega) (fun c_42 => absurd c_42 (by omega)) (fun c_42 => ?_)
  refine am_q_iload rfl rfl ?_
  refine am_q_zgeN rfl (by omega) (fun c_47 => ?_) (fun c_47 => absurd c_47 (by omega))
  refine am_q_aload_n rfl rfl ?_
  refine am_q_gi rfl rfl rfl hF ?_
  refine am_q_zneN rfl (by omega) (fun c_62 => absurd c_62 (by omega)) (fun c_62 => ?_)
  refine am_q_iload_n rfl rfl ?_
  refine am_q_iload rfl rfl ?_
  refine am_q_ishr rfl (sh_b1 k hk64 s (by omega)) ?_
  refine am_q_iconst (v := nI 1) rfl rfl ?_
  refine am_q_iand rfl (sn_and _ _) ?_
  refine am_q_iconst (v := nI 1) rfl rfl ?_
  refine am_q_ineN rfl (by have h2 : (k >>> s) &&& 1 ≤ 1 := Nat.and_le_right; omega) (by omega) (fun c_72 => ?_) (fun c_72 => absurd ((sh_b2 k hk64 s (by omega)).mp c_72) hb)
  refine am_q_aload_n rfl rfl ?_
  refine am_q_dupr rfl ?_
  refine am_q_gi rfl rfl rfl hA ?_
  refine am_q_aload_n rfl rfl ?_
  refine am_q_gi rfl rfl rfl hF ?_
  refine am_q_zleN rfl (by omega) (fun c_89 => ?_) (fun c_89 => absurd c_89 (by omega))
  refine am_q_iconst (v := nI 1) rfl rfl ?_
  refine am_q_iadd rfl (nI_add _ _) ?_
  refine am_q_pi rfl rfl rfl (Or.inl rfl) ?_
  refine am_q_aload_n rfl rfl ?_
  refine am_q_gi rfl rfl rfl ((am_up_ne (by omega)).trans hF) ?_
  refine am_q_zleN rfl (by omega) (fun c_105 => ?_) (fun c_105 => absurd c_105 (by omega))
  refine am_q_iload rfl rfl ?_
  refine am_q_ireturn rfl rfl rfl ?_
  rfl

theorem m_takeTold0 (d : Nat) (n i : Nat) {X : tTp} {μ : am_M2} (ν : am_N2) (hX : tpOk X) (hP : mP μ ν X i) (b N : Nat) (hbN : b + N ≤ 12) (hN6 : N ≤ 6) {nm : Nat → Nat} (hn : mNmR ν b nm N) (k : Nat) (hk64 : k < 64) : am_run (d + 4) 202 [.ref 133, .int (nI b), .int (nI N), .int (nI k)] (am_hp n μ ν) = some (some (.int (nI (mRv (tolM X nm N i k)))), am_hp n (mRs μ i (tolM X nm N i k)) ν) := by
  unfold tolM pTold
  by_cases hm : isNm X i = true
  · rw [if_neg (by rw [hm]; exact fun z => by cases z)]
    have e := naF_fnd (w := wd X i) hn.2
    cases hf : fnd nm N (wd X i) with
    | none => exact m_told_b d n i ν hX hP b N hbN hN6 hn k hk64 hm (e.trans hf)
    | some s =>
      show am_run _ _ _ _ = some (some (.int (nI (mRv (if k.testBit s = true then .inl (wr X i 3) else .inr s)))), am_hp n (mRs μ i (if k.testBit s = true then .inl (wr X i 3) else .inr s)) ν)
      by_cases hb : k.testBit s = true
      · rw [if_pos hb]; exact m_told_c d n i ν hX hP b N hbN hN6 hn k hk64 hm s (e.trans hf) hb
      · rw [if_neg hb]; exact m_told_d d n i ν hX hP b N hbN hN6 hn k hk64 hm s (e.trans hf) hb
  · have hm' : isNm X i = false := by simpa using hm
    rw [if_pos hm']; exact m_told_a d n i ν hX hP b N hbN hN6 hn k hk64 hm'
/-- StoneSecretsModel.takeTold(III)I -/
theorem m_takeTold1 (d : Nat) (x y z : Int32) (i : Nat) (n c : Nat) {μ : am_M2} (ν : am_N2) (hc : 0 < c) (hc2 : c < 2 ^ 30) (hF : μ 133 8 = nI c) (hA : μ 133 7 = nI i) : am_run (d + 4) 202 [.ref 133, .int x, .int y, .int z] (am_hp n μ ν) = some (some (.int (nI 0)), am_hp n μ ν) := by
  refine am_r202 (d := d + 3) (Nat.le_of_ble_eq_true rfl) [some (.ref 133), some (.int x), some (.int y), some (.int z), none] rfl ?_
  refine am_q_aload_n rfl rfl ?_
  refine am_q_gi rfl rfl rfl hF ?_
  refine am_q_zneN rfl (by omega) (fun c_4 => ?_) (fun c_4 => absurd c_4 (by omega))
  refine am_q_aload_n rfl rfl ?_
  refine am_q_gi rfl rfl rfl hF ?_
  refine am_q_zleN rfl (by omega) (fun c_23 => absurd c_23 (by omega)) (fun c_23 => ?_)
  refine am_q_iconst (v := -1) rfl rfl ?_
  refine am_q_goto rfl ?_
  refine am_q_istore [some _, some _, some _, some _, some _] rfl (Nat.le_of_ble_eq_true rfl) rfl ?_
  refine am_q_aload_n rfl rfl ?_
  refine am_q_gi rfl rfl rfl hF ?_
  refine am_q_zneN rfl (by omega) (fun c_42 => ?_) (fun c_42 => absurd c_42 (by omega))
  refine am_q_aload_n rfl rfl ?_
  refine am_q_gi rfl rfl rfl hF ?_
  refine am_q_zneN rfl (by omega) (fun c_62 => ?_) (fun c_62 => absurd c_62 (by omega))
  refine am_q_aload_n rfl rfl ?_
  refine am_q_dupr rfl ?_
  refine am_q_gi rfl rfl rfl hA ?_
  refine am_q_aload_n rfl rfl ?_
  refine am_q_gi rfl rfl rfl hF ?_
  refine am_q_zleN rfl (by omega) (fun c_89 => absurd c_89 (by omega)) (fun c_89 => ?_)
  refine am_q_iconst (v := nI 0) rfl rfl ?_
  refine am_q_goto rfl ?_
  refine am_q_iadd rfl (nI_add _ _) ?_
  refine am_q_pi rfl rfl rfl (Or.inl rfl) ?_
  refine am_q_aload_n rfl rfl ?_
  refine am_q_gi rfl rfl rfl ((am_up_ne (by omega)).trans hF) ?_
  refine am_q_zleN rfl (by omega) (fun c_105 => absurd c_105 (by omega)) (fun c_105 => ?_)
  refine am_q_iconst (v := nI 0) rfl rfl ?_
  refine am_q_goto rfl ?_
  refine am_q_ireturn rfl rfl rfl ?_
  rw [am_up_same (v := nI (i + 0)) hA]
