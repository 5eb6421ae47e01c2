/-! ===== the model's tokens ===== -/
def cvF (X : tTp) (q : Nat) : Nat → Nat := lpF (fun k x => x * 37 + (X.1 (q + k) - 96)) 0
theorem cvF_s (X : tTp) (q k : Nat) : cvF X q (k + 1) = cvF X q k * 37 + (X.1 (q + k) - 96) := rfl
def dv : Nat → Nat → Nat
  | 0, _ => 0
  | f + 1, v => dv f (v / 37) * 256 + (if v % 37 = 0 then 0 else v % 37 + 96)
def cv : Nat → Nat → Nat
  | 0, _ => 0
  | f + 1, w => cv f (w / 256) * 37 + (w % 256 - 96)
def cw (w : Nat) : Nat := cv 8 w
def wfW (w : Nat) : Prop := dv 8 (cw w) = w
theorem dv_0 : ∀ f, dv f 0 = 0
  | 0 => rfl
  | f + 1 => by unfold dv; rw [show 0 / 37 = 0 from rfl, dv_0 f]; rfl
theorem cv_0 : ∀ f, cv f 0 = 0
  | 0 => rfl
  | f + 1 => by unfold cv; rw [show 0 / 256 = 0 from rfl, cv_0 f]
theorem cv_lt : ∀ f w, cv f w + 5 < 160 * 37 ^ f
  | 0, w => by show 0 + 5 < 160 * 1; decide
  | f + 1, w => by
    have := cv_lt f (w / 256)
    have h2 : w % 256 < 256 := Nat.mod_lt _ (by decide)
    unfold cv
    rw [Nat.pow_succ]
    generalize 37 ^ f = z at *
    omega
theorem cw_63 (w : Nat) : cw w < 2 ^ 63 := by
  have := cv_lt 8 w
  unfold cw
  have e : 160 * 37 ^ 8 < 2 ^ 63 := by decide
  omega
theorem cw_inj {a b : Nat} (ha : wfW a) (hb : wfW b) (h : cw a = cw b) : a = b := by
  unfold wfW at ha hb
  rw [← ha, ← hb, h]
theorem lg_wf' : ∀ r, r < 22 → dv 8 (cw (lg r)) = lg r := by decide +kernel
theorem lg_wf (r : Nat) (h : r < 22) : wfW (lg r) := lg_wf' r h
theorem le_r {c : Nat} (h : leB c = true) : 97 ≤ c ∧ c ≤ 122 := by unfold leB at h; simp at h; exact h
theorem dv_cvF {X : tTp} {q : Nat} : ∀ m f, m ≤ f → (∀ k, k < m → leB (X.1 (q + k)) = true) → dv f (cvF X q m) = wdF X q m
  | 0, f, _, _ => dv_0 f
  | m + 1, 0, h, _ => absurd h (by omega)
  | m + 1, f + 1, h, hl => by
    have ih := dv_cvF (X := X) (q := q) m f (by omega) (fun k hk => hl k (by omega))
    have hc := le_r (hl m (by omega))
    rw [cvF_s, wdF_s]
    unfold dv
    rw [show (cvF X q m * 37 + (X.1 (q + m) - 96)) / 37 = cvF X q m by omega, show (cvF X q m * 37 + (X.1 (q + m) - 96)) % 37 = X.1 (q + m) - 96 by omega, ih, if_neg (by omega)]
    omega
theorem cv_wdF {X : tTp} {q : Nat} : ∀ m f, m ≤ f → (∀ k, k < m → leB (X.1 (q + k)) = true) → cv f (wdF X q m) = cvF X q m
  | 0, f, _, _ => cv_0 f
  | m + 1, 0, h, _ => absurd h (by omega)
  | m + 1, f + 1, h, hl => by
    have ih := cv_wdF (X := X) (q := q) m f (by omega) (fun k hk => hl k (by omega))
    have hc := le_r (hl m (by omega))
    rw [cvF_s, wdF_s]
    unfold cv
    rw [show (wdF X q m * 256 + X.1 (q + m)) / 256 = wdF X q m by omega, show (wdF X q m * 256 + X.1 (q + m)) % 256 = X.1 (q + m) by omega, ih]
theorem wd_sp {X : tTp} {i : Nat} (h : kd X i = 2) : pl X i < X.2 ∧ leB (X.1 (pl X i)) = true ∧ en X (i + 1) = lxL X (pl X i) ∧ lxL X (pl X i) - pl X i ≤ 8 := by
  have h0 : ¬ X.2 ≤ pl X i := fun z => by rw [kd_0.mpr z] at h; cases h
  unfold kd lkK at h
  rw [if_neg h0] at h
  by_cases hl : leB (X.1 (pl X i)) = true
  · rw [if_pos hl] at h
    refine ⟨by omega, hl, ?_, ?_⟩
    · rw [en_s]; unfold lkE; rw [if_neg h0, if_pos hl]
    · by_cases z : 8 < lxL X (pl X i) - pl X i
      · rw [if_pos z] at h; cases h
      · omega
  · rw [if_neg hl] at h
    repeat' split at h
    all_goals cases h
theorem wd_le {X : tTp} {i : Nat} (h : kd X i = 2) : ∀ k, k < en X (i + 1) - pl X i → leB (X.1 (pl X i + k)) = true := fun k hk => by
  obtain ⟨a, b, c, _⟩ := wd_sp h
  rw [c] at hk
  exact rn_in (f := fun x => leB (X.1 x)) (n := X.2) (p := pl X i) (by omega) (by unfold lxL at hk; omega)
theorem wd_cw {X : tTp} {i : Nat} (h : kd X i = 2) : cw (wd X i) = cvF X (pl X i) (en X (i + 1) - pl X i) := by
  obtain ⟨a, b, c, e⟩ := wd_sp h
  exact cv_wdF _ 8 (by rw [c]; exact e) (wd_le h)
theorem wd_wf {X : tTp} {i : Nat} (h : kd X i = 2) : wfW (wd X i) := by
  obtain ⟨a, b, c, e⟩ := wd_sp h
  unfold wfW
  rw [wd_cw h]
  exact dv_cvF _ 8 (by rw [c]; exact e) (wd_le h)
theorem cvM_s {X : tTp} {q j : Nat} (hq : q ≤ j) (h : j - q < 8) : 37 * cvF X q (min (j - q) 8) + (X.1 j - 96) = cvF X q (min (j + 1 - q) 8) := by
  rw [Nat.min_eq_left (by omega), Nat.min_eq_left (by omega), show j + 1 - q = j - q + 1 by omega, cvF_s, show q + (j - q) = j by omega, Nat.mul_comm]
theorem cvM_n {X : tTp} {q j : Nat} (hq : q ≤ j) (h : 8 ≤ j - q) : cvF X q (min (j - q) 8) = cvF X q (min (j + 1 - q) 8) := by
  rw [Nat.min_eq_right (by omega), Nat.min_eq_right (by omega)]
theorem nuM_s {X : tTp} {q j : Nat} (hq : q ≤ j) (h : j - q < 4) (hd : 48 ≤ X.1 j) : 10 * nuF X q (min (j - q) 4) + X.1 j - 48 = nuF X q (min (j + 1 - q) 4) := by
  rw [Nat.min_eq_left (by omega), Nat.min_eq_left (by omega), show j + 1 - q = j - q + 1 by omega, nuF_s, show q + (j - q) = j by omega, Nat.mul_comm]; omega
theorem nuM_n {X : tTp} {q j : Nat} (hq : q ≤ j) (h : 4 ≤ j - q) : nuF X q (min (j - q) 4) = nuF X q (min (j + 1 - q) 4) := by
  rw [Nat.min_eq_right (by omega), Nat.min_eq_right (by omega)]
/-- StoneSecretsModel.rank(I)I -/
theorem m_rank (d : Nat) (c : Nat) (hc : leB c = true) (h : am_H) : am_run (d + 2) 187 [.int (nI c)] (h) = some (some (.int (nI (c - 96))), h) := by
  have hr := le_r hc
  refine am_r187 (d := d + 1) (Nat.le_of_ble_eq_true rfl) [some (.int (nI c))] rfl ?_
  refine am_q_iload_n rfl rfl ?_
  refine am_q_call rfl rfl (m_isLetter _ c (by omega) _) rfl ?_
  refine am_q_if_eqB rfl (fun c_4 => by rw [hc] at c_4; cases c_4) (fun c_4 => ?_)
  refine am_q_iload_n rfl rfl ?_
  refine am_q_bipush (v := nI 96) rfl rfl ?_
  refine am_q_isub rfl (pk_sub (by omega)) ?_
  refine am_q_goto rfl ?_
  refine am_q_ireturn rfl rfl rfl ?_
  rfl

theorem m_cwL (d : Nat) (n t q e c0 : Nat) {X : tTp} {μ : am_M2} (ν : am_N2) (hX : tpOk X) (hT : ∀ j, j < X.2 → μ 134 j = nI (X.1 j)) (hS : μ 133 3 = nI X.2) (hqe : q < e) (hen : e ≤ X.2) (hle : ∀ x, q ≤ x → x < e → leB (X.1 x) = true) (hno : e < X.2 → leB (X.1 e) = false) (Q : am_R → Prop) (K : am_w (d + 3) (Option.none : Option FieldType) am_g185 129 [some (.ref 133), some (.int (nI t)), some (.int (nI e)), some (.int (nI c0)), some (.int (nI q)), some (.long ((lN (cvF X q (min (e - q) 8))))), none] [] (am_hp n μ ν) Q) : ∀ (m j : Nat) , j + m = e → q ≤ j → am_w (d + 3) (Option.none : Option FieldType) am_g185 70 [some (.ref 133), some (.int (nI t)), some (.int (nI j)), some (.int (nI c0)), some (.int (nI q)), some (.long (lN (cvF X q (min (j - q) 8)))), none] [] (am_hp n μ ν) (Q) := by
  intro m
  induction m with
  | zero =>
    intro j  hj hinv
    have h1000 := hX.1
    have hje : j = e := by omega
    refine am_q_iload_n rfl rfl ?_
    refine am_q_aload_n rfl rfl ?_
    refine am_q_gi rfl rfl rfl hS ?_
    refine am_q_igeN rfl (by omega) (by omega) (fun c_75 => ?_) (fun c_75 => ?_)
    · subst hje
      exact K
    · refine am_q_aload_n rfl rfl ?_
      refine am_q_gr rfl rfl rfl ?_
      refine am_q_iload_n rfl rfl ?_
      refine am_q_iald rfl rfl (am_ix_nI (show j < 1000 by omega) (by decide)) (hT j (by omega)) ?_
      have hcj := tp_128 hX c_75
      refine am_q_call rfl rfl (m_isLetter _ (X.1 j) (by omega) _) rfl ?_
      refine am_q_if_eqB rfl (fun c_87 => ?_) (fun c_87 => by rw [hje, hno (by omega)] at c_87; cases c_87)
      subst hje
      exact K
  | succ m ih =>
    intro j  hj hinv
    have h1000 := hX.1
    have hjq := hinv
    have hlj := hle j hjq (by omega)
    have hcj := tp_128 hX (show j < X.2 by omega)
    have hr := le_r hlj
    refine am_q_iload_n rfl rfl ?_
    refine am_q_aload_n rfl rfl ?_
    refine am_q_gi rfl rfl rfl hS ?_
    refine am_q_igeN rfl (by omega) (by omega) (fun c_75 => absurd c_75 (by omega)) (fun c_75 => ?_)
    refine am_q_aload_n rfl rfl ?_
    refine am_q_gr rfl rfl rfl ?_
    refine am_q_iload_n rfl rfl ?_
    refine am_q_iald rfl rfl (am_ix_nI (show j < 1000 by omega) (by decide)) (hT j (by omega)) ?_
    refine am_q_call rfl rfl (m_isLetter _ (X.1 j) (by omega) _) rfl ?_
    refine am_q_if_eqB rfl (fun c_87 => by rw [hlj] at c_87; cases c_87) (fun c_87 => ?_)
    refine am_q_iload_n rfl rfl ?_
    refine am_q_iload rfl rfl ?_
    refine am_q_isub rfl (pk_sub (by omega)) ?_
    refine am_q_bipush (v := nI 8) rfl rfl ?_
    refine am_q_igeN rfl (by omega) (by omega) (fun c_96 => ?_) (fun c_96 => ?_)
    · refine am_q_lload rfl rfl ?_
      refine am_q_lstore [some _, some _, some _, some _, some _, some _, none] rfl (Nat.le_of_ble_eq_true rfl) rfl ?_
      refine am_q_iinc [some _, some _, some _, some _, some _, some _, none] rfl (c := nI 1) rfl rfl (Nat.le_of_ble_eq_true rfl) (nI_add _ _) rfl ?_
      refine am_q_goto rfl ?_
      first
      | (rw [cvM_s hjq (by omega)]; exact ih (j + 1) (by omega) (by omega))
      | (rw [cvM_n hjq (by omega)]; exact ih (j + 1) (by omega) (by omega))
    · refine am_q_ldc2_w (v := lN 37) rfl rfl ?_
      refine am_q_lload rfl rfl ?_
      refine am_q_lmul rfl (lN_mul _ _) ?_
      refine am_q_aload_n rfl rfl ?_
      refine am_q_gr rfl rfl rfl ?_
      refine am_q_iload_n rfl rfl ?_
      refine am_q_iald rfl rfl (am_ix_nI (show j < 1000 by omega) (by decide)) (hT j (by omega)) ?_
      refine am_q_call rfl rfl (m_rank _ (X.1 j) hlj _) rfl ?_
      refine am_q_i2l rfl (nI_l (by omega)) ?_
      refine am_q_ladd rfl (lN_add _ _) ?_
      refine am_q_goto rfl ?_
      refine am_q_lstore [some _, some _, some _, some _, some _, some _, none] rfl (Nat.le_of_ble_eq_true rfl) rfl ?_
      refine am_q_iinc [some _, some _, some _, some _, some _, some _, none] rfl (c := nI 1) rfl rfl (Nat.le_of_ble_eq_true rfl) (nI_add _ _) rfl ?_
      refine am_q_goto rfl ?_
      first
      | (rw [cvM_s hjq (by omega)]; exact ih (j + 1) (by omega) (by omega))
      | (rw [cvM_n hjq (by omega)]; exact ih (j + 1) (by omega) (by omega))

theorem m_cnL (d : Nat) (n t q e c0 : Nat) {X : tTp} {μ : am_M2} (ν : am_N2) (hX : tpOk X) (hT : ∀ j, j < X.2 → μ 134 j = nI (X.1 j)) (hS : μ 133 3 = nI X.2) (hqe : q < e) (hen : e ≤ X.2) (hle : ∀ x, q ≤ x → x < e → diB (X.1 x) = true) (hno : e < X.2 → diB (X.1 e) = false) (Q : am_R → Prop) (K : am_w (d + 3) (Option.none : Option FieldType) am_g185 218 [some (.ref 133), some (.int (nI t)), some (.int (nI e)), some (.int (nI c0)), some (.int (nI q)), some (.long ((lN (nuF X q (min (e - q) 4))))), none] [] (am_hp n μ ν) Q) : ∀ (m j : Nat) , j + m = e → q ≤ j → am_w (d + 3) (Option.none : Option FieldType) am_g185 159 [some (.ref 133), some (.int (nI t)), some (.int (nI j)), some (.int (nI c0)), some (.int (nI q)), some (.long (lN (nuF X q (min (j - q) 4)))), none] [] (am_hp n μ ν) (Q) := by
  intro m
  induction m with
  | zero =>
    intro j  hj hinv
    have h1000 := hX.1
    have hje : j = e := by omega
    refine am_q_iload_n rfl rfl ?_
    refine am_q_aload_n rfl rfl ?_
    refine am_q_gi rfl rfl rfl hS ?_
    refine am_q_igeN rfl (by omega) (by omega) (fun c_164 => ?_) (fun c_164 => ?_)
    · subst hje
      exact K
    · refine am_q_aload_n rfl rfl ?_
      refine am_q_gr rfl rfl rfl ?_
      refine am_q_iload_n rfl rfl ?_
      refine am_q_iald rfl rfl (am_ix_nI (show j < 1000 by omega) (by decide)) (hT j (by omega)) ?_
      have hcj := tp_128 hX c_164
      refine am_q_call rfl rfl (m_isDigit _ (X.1 j) (by omega) _) rfl ?_
      refine am_q_if_eqB rfl (fun c_176 => ?_) (fun c_176 => by rw [hje, hno (by omega)] at c_176; cases c_176)
      subst hje
      exact K
  | succ m ih =>
    intro j  hj hinv
    have h1000 := hX.1
    have hjq := hinv
    have hlj := hle j hjq (by omega)
    have hcj := tp_128 hX (show j < X.2 by omega)
    have hr : 48 ≤ X.1 j := by unfold diB at hlj; simp at hlj; omega
    refine am_q_iload_n rfl rfl ?_
    refine am_q_aload_n rfl rfl ?_
    refine am_q_gi rfl rfl rfl hS ?_
    refine am_q_igeN rfl (by omega) (by omega) (fun c_164 => absurd c_164 (by omega)) (fun c_164 => ?_)
    refine am_q_aload_n rfl rfl ?_
    refine am_q_gr rfl rfl rfl ?_
    refine am_q_iload_n rfl rfl ?_
    refine am_q_iald rfl rfl (am_ix_nI (show j < 1000 by omega) (by decide)) (hT j (by omega)) ?_
    refine am_q_call rfl rfl (m_isDigit _ (X.1 j) (by omega) _) rfl ?_
    refine am_q_if_eqB rfl (fun c_176 => by rw [hlj] at c_176; cases c_176) (fun c_176 => ?_)
    refine am_q_iload_n rfl rfl ?_
    refine am_q_iload rfl rfl ?_
    refine am_q_isub rfl (pk_sub (by omega)) ?_
    refine am_q_iconst (v := nI 4) rfl rfl ?_
    refine am_q_igeN rfl (by omega) (by omega) (fun c_184 => ?_) (fun c_184 => ?_)
    · refine am_q_lload rfl rfl ?_
      refine am_q_lstore [some _, some _, some _, some _, some _, some _, none] rfl (Nat.le_of_ble_eq_true rfl) rfl ?_
      refine am_q_iinc [some _, some _, some _, some _, some _, some _, none] rfl (c := nI 1) rfl rfl (Nat.le_of_ble_eq_true rfl) (nI_add _ _) rfl ?_
      refine am_q_goto rfl ?_
      first
      | (rw [nuM_s hjq (by omega) hr]; exact ih (j + 1) (by omega) (by omega))
      | (rw [nuM_n hjq (by omega)]; exact ih (j + 1) (by omega) (by omega))
    · refine am_q_ldc2_w (v := lN 10) rfl rfl ?_
      refine am_q_lload rfl rfl ?_
      refine am_q_lmul rfl (lN_mul _ _) ?_
      refine am_q_aload_n rfl rfl ?_
      refine am_q_gr rfl rfl rfl ?_
      refine am_q_iload_n rfl rfl ?_
      refine am_q_iald rfl rfl (am_ix_nI (show j < 1000 by omega) (by decide)) (hT j (by omega)) ?_
      refine am_q_i2l rfl (nI_l (by omega)) ?_
      refine am_q_ladd rfl (lN_add _ _) ?_
      refine am_q_ldc2_w (v := lN 48) rfl rfl ?_
      refine am_q_lsub rfl (lN_sub (by omega)) ?_
      refine am_q_goto rfl ?_
      refine am_q_lstore [some _, some _, some _, some _, some _, some _, none] rfl (Nat.le_of_ble_eq_true rfl) rfl ?_
      refine am_q_iinc [some _, some _, some _, some _, some _, some _, none] rfl (c := nI 1) rfl rfl (Nat.le_of_ble_eq_true rfl) (nI_add _ _) rfl ?_
      refine am_q_goto rfl ?_
      first
      | (rw [nuM_s hjq (by omega) hr]; exact ih (j + 1) (by omega) (by omega))
      | (rw [nuM_n hjq (by omega)]; exact ih (j + 1) (by omega) (by omega))
