/-! ===== the parser, in numbers ===== -/
def wr (X : tTp) (i k : Nat) : Nat := k + 16 * pl X i
def isWd (X : tTp) (i r : Nat) : Bool := decide (kd X i = 2) && decide (wd X i = lg r)
def isNm (X : tTp) (i : Nat) : Bool := decide (kd X i = 2) && decide (18 ≤ lgI (wd X i))
def isSg (X : tTp) (i c : Nat) : Bool := decide (kd X i = 4) && decide (X.1 (pl X i) = c)
def fnd (nm : Nat → Nat) (N w : Nat) : Option Nat := if fa_first (fun s => decide (nm s = w)) N < N then some (fa_first (fun s => decide (nm s = w)) N) else none
def pNum (X : tTp) (i lo hi : Nat) : Nat ⊕ Nat := if kd X i ≠ 3 then .inl (wr X i 1) else if nu X i < lo ∨ hi < nu X i then .inl (wr X i 4) else .inr (nu X i)
def pTold (X : tTp) (nm : Nat → Nat) (N i : Nat) : Nat ⊕ Nat := if isNm X i = false then .inl (wr X i 1) else (match fnd nm N (wd X i) with
  | none => .inl (wr X i 2)
  | some s => .inr s)
abbrev dft : Type := sVal × (Nat → Nat) × Bool
theorem lg_inj : ∀ r, r < 18 → lgI (lg r) = r := by decide +kernel
theorem kd_le (X : tTp) (i : Nat) : kd X i ≤ 4 := by
  unfold kd lkK
  repeat' split
  all_goals omega
theorem kd_sg {X : tTp} {i : Nat} (h : kd X i = 4) : pl X i < X.2 ∧ sgB (X.1 (pl X i)) = true := by
  have h0 : ¬ X.2 ≤ pl X i := fun z => by rw [kd_0.mpr z] at h; cases h
  refine ⟨by omega, ?_⟩
  unfold kd lkK at h
  rw [if_neg h0] at h
  split at h
  · split at h <;> omega
  · split at h
    · split at h <;> omega
    · split at h
      · assumption
      · omega
theorem sg_rng {c : Nat} (h : sgB c = true) : 40 ≤ c ∧ c ≤ 61 := by unfold sgB at h; simp at h; omega
theorem tkc_lt (X : tTp) (i : Nat) : tkc X i < 2 ^ 20 := by
  have := kd_le X i
  unfold tkc
  split
  · split <;> omega
  · split
    · rename_i h; have := sg_rng (kd_sg h).2; omega
    · omega
theorem tkc_w {X : tTp} {i r : Nat} (hr : r < 18) : tkc X i = 128 + r ↔ isWd X i r = true := by
  have hk := kd_le X i
  unfold isWd
  rw [Bool.and_eq_true, decide_eq_true_eq, decide_eq_true_eq]
  constructor
  · intro h
    unfold tkc at h
    split at h
    · rename_i h2
      refine ⟨h2, ?_⟩
      split at h
      · rename_i h3
        have e : lgI (wd X i) = r := by omega
        have := fa_first_yes (fun q => decide (lg q = wd X i)) 18 h3
        have := of_decide_eq_true this
        rw [show fa_first (fun q => decide (lg q = wd X i)) 18 = r from e] at this
        exact this.symm
      · omega
    · split at h
      · rename_i h4; have := sg_rng (kd_sg h4).2; omega
      · omega
  · rintro ⟨h1, h2⟩
    unfold tkc
    rw [if_pos h1, h2, lg_inj r hr, if_pos hr]
theorem tkc_n {X : tTp} {i : Nat} : tkc X i = 2 ↔ isNm X i = true := by
  have hk := kd_le X i
  unfold isNm
  rw [Bool.and_eq_true, decide_eq_true_eq, decide_eq_true_eq]
  constructor
  · intro h
    unfold tkc at h
    split at h
    · rename_i h2
      refine ⟨h2, ?_⟩
      split at h <;> omega
    · split at h
      · rename_i h4; have := sg_rng (kd_sg h4).2; omega
      · omega
  · rintro ⟨h1, h2⟩
    unfold tkc
    rw [if_pos h1, if_neg (by omega)]
theorem tkc_3 {X : tTp} {i : Nat} : tkc X i = 3 ↔ kd X i = 3 := by
  have hk := kd_le X i
  unfold tkc
  constructor
  · intro h
    split at h
    · split at h <;> omega
    · split at h
      · rename_i h4; have := sg_rng (kd_sg h4).2; omega
      · exact h
  · intro h; rw [if_neg (by omega), if_neg (by omega)]; exact h
theorem tkc_0 {X : tTp} {i : Nat} : tkc X i = 0 ↔ kd X i = 0 := by
  have hk := kd_le X i
  unfold tkc
  constructor
  · intro h
    split at h
    · split at h <;> omega
    · split at h
      · rename_i h4; have := sg_rng (kd_sg h4).2; omega
      · exact h
  · intro h; rw [if_neg (by omega), if_neg (by omega)]; exact h
theorem tkc_s {X : tTp} {i c : Nat} (hc : 40 ≤ c ∧ c ≤ 61) : tkc X i = c ↔ isSg X i c = true := by
  have hk := kd_le X i
  unfold isSg
  rw [Bool.and_eq_true, decide_eq_true_eq, decide_eq_true_eq]
  unfold tkc
  constructor
  · intro h
    split at h
    · split at h <;> omega
    · split at h
      · rename_i h4; exact ⟨h4, h⟩
      · omega
  · rintro ⟨h1, h2⟩; rw [if_neg (by omega), if_pos h1]; exact h2
theorem nuF_lt {X : tTp} {q : Nat} : ∀ m, (∀ k, k < m → diB (X.1 (q + k)) = true) → nuF X q m < 10 ^ m
  | 0, _ => by show 0 < 1; decide
  | m + 1, h => by
    have := nuF_lt m (fun k hk => h k (by omega))
    have h2 := h m (by omega)
    unfold diB at h2
    simp at h2
    rw [nuF_s, Nat.pow_succ]; omega
theorem kd_nu {X : tTp} {i : Nat} (h : kd X i = 3) : nu X i < 10000 := by
  have h0 : ¬ X.2 ≤ pl X i := fun z => by rw [kd_0.mpr z] at h; cases h
  unfold kd lkK at h
  rw [if_neg h0] at h
  split at h
  · split at h <;> omega
  · rename_i hl
    split at h
    · rename_i hd
      have he : en X (i + 1) = lxD X (pl X i) := by rw [en_s]; unfold lkE; rw [if_neg h0, if_neg hl, if_pos hd]
      split at h
      · omega
      · rename_i h4
        unfold nu
        rw [he]
        have h1 := nuF_lt (X := X) (q := pl X i) (lxD X (pl X i) - pl X i) (fun k hk => rn_in (f := fun x => diB (X.1 x)) (n := X.2) (p := pl X i) (by omega) (by unfold lxD at hk; omega))
        have h2 : 10 ^ (lxD X (pl X i) - pl X i) ≤ 10 ^ 4 := Nat.pow_le_pow_right (by decide) (by omega)
        omega
    · split at h <;> omega
def frT3 (μ μ' : am_M2) : Prop := ∀ i k, ¬ (i = 3 ∧ 2 ≤ k) → μ' i k = μ i k
theorem frT3_tr {μ μ' μ'' : am_M2} (h : frT3 μ μ') (h' : frT3 μ' μ'') : frT3 μ μ'' := fun i k q => (h' i k q).trans (h i k q)
theorem frT3_rf (μ : am_M2) : frT3 μ μ := fun _ _ _ => rfl
theorem frT3_K {μ μ' : am_M2} (h : frK μ μ') : frT3 μ μ' := fun i k q => h i k (by omega)
theorem frT3_7 {μ : am_M2} {v : Int32} : frT3 μ (am_up μ 3 7 v) := fun i k q => am_up_ne (by omega)
theorem xTk_c {μ μ' : am_M2} {ν ν' : am_N2} {X : tTp} {i : Nat} (h : ∀ a k, a = 3 ∧ k ≤ 5 ∨ a = 4 → μ' a k = μ a k) (hv : ν' 3 6 = ν 3 6) (hT : xTk μ ν X i) : xTk μ' ν' X i :=
  ⟨⟨(h 3 1 (by omega)).trans hT.1.1, fun j hj => (h 4 j (by omega)).trans (hT.1.2 j hj)⟩, (h 3 2 (by omega)).trans hT.2.1, (h 3 4 (by omega)).trans hT.2.2.1, (h 3 3 (by omega)).trans hT.2.2.2.1, fun z => (h 3 5 (by omega)).trans (hT.2.2.2.2.1 z), fun z => hv.trans (hT.2.2.2.2.2 z)⟩
/-- StoneSecrets$Tape.wrong(I)Z -/
theorem s_wrong (d : Nat) (k : Nat) (n i : Nat) {X : tTp} {μ : am_M2} (ν : am_N2) (hp : μ 3 4 = nI (pl X i)) : am_run (d + 1) 31 [.ref 3, .int (nI k)] (am_hp n μ ν) = some (some (.int (sB false)), am_hp n (am_up μ 3 7 (nI (wr X i k))) ν) := by
  refine am_r31 (d := d + 0) (Nat.le_of_ble_eq_true rfl) [some (.ref 3), some (.int (nI k))] rfl ?_
  refine am_q_aload_n rfl rfl ?_
  refine am_q_iload_n rfl rfl ?_
  refine am_q_bipush (v := nI 16) rfl rfl ?_
  refine am_q_aload_n rfl rfl ?_
  refine am_q_gi rfl rfl rfl hp ?_
  refine am_q_imul rfl (pk_mul _ _) ?_
  refine am_q_iadd rfl (nI_add _ _) ?_
  refine am_q_pi rfl rfl rfl (Or.inl rfl) ?_
  refine am_q_iconst (v := nI 0) rfl rfl ?_
  refine am_q_ireturn rfl rfl rfl ?_
  rfl

/-- StoneSecrets$Tape.pass(I)Z -/
theorem s_pass1 (d : Nat) (w : Nat) (hw : w < 2 ^ 20) (n i : Nat) {X : tTp} {μ : am_M2} (ν : am_N2) (hX : tpOk X) (hT : xTk μ ν X i) (hL : xLg ν) (h : tkc X i = w) : ∃ (μ' : am_M2) (ν' : am_N2), am_run (d + 5) 38 [.ref 3, .int (nI w)] (am_hp n μ ν) = some (some (.int (sB true)), am_hp n μ' ν') ∧ xTk μ' ν' X (i + 1) ∧ frK μ μ' ∧ frKL ν ν' := by
  have ht := tkc_lt X i
  have key : ∃ r, am_run (d + 5) 38 [.ref 3, .int (nI w)] (am_hp n μ ν) = some r ∧ ∃ (μ' : am_M2) (ν' : am_N2), r = (some (.int (sB true)), am_hp n μ' ν') ∧ xTk μ' ν' X (i + 1) ∧ frK μ μ' ∧ frKL ν ν' := am_run_wE (k := 38) (d := d + 4) rfl rfl (Nat.le_of_ble_eq_true rfl) [some (.ref 3), some (.int (nI w))] rfl (by
    refine am_q_aload_n rfl rfl ?_
    refine am_q_gi rfl rfl rfl hT.2.2.2.1 ?_
    refine am_q_iload_n rfl rfl ?_
    refine am_q_ieqN rfl (by omega) (by omega) (fun c_5 => ?_) (fun c_5 => absurd c_5 (by omega))
    refine am_q_aload_n rfl rfl ?_
    obtain ⟨μ2, ν2, hc2, hT2, hf2, hl2⟩ := s_step _ n (i + 1) ν hX hT.1 hT.2.1 hL
    refine am_q_call rfl rfl (hc2) rfl ?_
    refine am_q_iconst (v := nI 1) rfl rfl ?_
    refine am_q_ireturn rfl rfl rfl ?_
    exact ⟨_, _, rfl, hT2, hf2, hl2⟩)
  obtain ⟨r, h1, μ', ν', h2, h3⟩ := key
  exact ⟨μ', ν', by rw [h1, h2], h3⟩

/-- StoneSecrets$Tape.pass(I)Z -/
theorem s_pass0 (d : Nat) (w : Nat) (hw : w < 2 ^ 20) (n i : Nat) {X : tTp} {μ : am_M2} (ν : am_N2) (hX : tpOk X) (hT : xTk μ ν X i) (hL : xLg ν) (h : ¬ tkc X i = w) : am_run (d + 5) 38 [.ref 3, .int (nI w)] (am_hp n μ ν) = some (some (.int (sB false)), am_hp n (am_up μ 3 7 (nI (wr X i 1))) ν) := by
  have ht := tkc_lt X i
  refine am_r38 (d := d + 4) (Nat.le_of_ble_eq_true rfl) [some (.ref 3), some (.int (nI w))] rfl ?_
  refine am_q_aload_n rfl rfl ?_
  refine am_q_gi rfl rfl rfl hT.2.2.2.1 ?_
  refine am_q_iload_n rfl rfl ?_
  refine am_q_ieqN rfl (by omega) (by omega) (fun c_5 => absurd c_5 (by omega)) (fun c_5 => ?_)
  refine am_q_aload_n rfl rfl ?_
  refine am_q_iconst (v := nI 1) rfl rfl ?_
  refine am_q_call rfl rfl (s_wrong _ 1 n i ν hT.2.2.1) rfl ?_
  refine am_q_ireturn rfl rfl (sB_ok _) ?_
  rfl

def pNumI (X : tTp) (i lo : Nat) (hi : Int32) : Nat ⊕ Nat := if kd X i ≠ 3 then .inl (wr X i 1) else if nu X i < lo ∨ hi < nI (nu X i) then .inl (wr X i 4) else .inr (nu X i)
theorem pNumI_N {X : tTp} {i lo hi : Nat} (h : hi < 2 ^ 31) : pNumI X i lo (nI hi) = pNum X i lo hi := by
  unfold pNumI pNum
  by_cases h3 : kd X i = 3
  · have hn := kd_nu h3
    rw [if_neg (show ¬ kd X i ≠ 3 from fun z => z h3)]
    refine Eq.trans ?_ (if_neg (show ¬ kd X i ≠ 3 from fun z => z h3)).symm
    by_cases c : nu X i < lo ∨ hi < nu X i
    · rw [if_pos c, if_pos (show nu X i < lo ∨ nI hi < nI (nu X i) by rcases c with z | z; exact Or.inl z; exact Or.inr (nI_lt z (by omega)))]
    · rw [if_neg c, if_neg (show ¬ (nu X i < lo ∨ nI hi < nI (nu X i)) by rintro (z | z); exact c (Or.inl z); exact c (Or.inr ((nI_ltI h (by omega)).mp z)))]
  · rw [if_pos h3]; exact (if_pos h3).symm
/-- StoneSecrets$Tape.isNumberWithin(II)Z -/
theorem s_within (d : Nat) (hi : Int32) (n i : Nat) {X : tTp} {μ : am_M2} (ν : am_N2) (hX : tpOk X) (hT : xTk μ ν X i) (hL : xLg ν) (lo : Nat) (hlo : lo < 2 ^ 20) : ∃ (μ' : am_M2), am_run (d + 2) 33 [.ref 3, .int (nI lo), .int hi] (am_hp n μ ν) = some (some (.int (sB (pNumI X i lo hi).isRight)), am_hp n μ' ν) ∧ frT3 μ μ' ∧ (match pNumI X i lo hi with | .inl c => μ' 3 7 = nI c | .inr _ => μ' = μ ∧ kd X i = 3) := by
  have ht := tkc_lt X i
  have key : ∃ r, am_run (d + 2) 33 [.ref 3, .int (nI lo), .int hi] (am_hp n μ ν) = some r ∧ ∃ (μ' : am_M2), r = (some (.int (sB (pNumI X i lo hi).isRight)), am_hp n μ' ν) ∧ frT3 μ μ' ∧ (match pNumI X i lo hi with | .inl c => μ' 3 7 = nI c | .inr _ => μ' = μ ∧ kd X i = 3) := am_run_wE (k := 33) (d := d + 1) rfl rfl (Nat.le_of_ble_eq_true rfl) [some (.ref 3), some (.int (nI lo)), some (.int hi)] rfl (by
    refine am_q_aload_n rfl rfl ?_
    refine am_q_gi rfl rfl rfl hT.2.2.2.1 ?_
    refine am_q_iconst (v := nI 3) rfl rfl ?_
    refine am_q_ieqN rfl (by omega) (by omega) (fun c_5 => ?_) (fun c_5 => ?_)
    · have h3 := tkc_3.mp c_5
      have hn := kd_nu h3
      have h5 := hT.2.2.2.2.1 h3
      refine am_q_aload_n rfl rfl ?_
      refine am_q_gi rfl rfl rfl h5 ?_
      refine am_q_iload_n rfl rfl ?_
      refine am_q_iltN rfl (by omega) (by omega) (fun c_19 => ?_) (fun c_19 => ?_)
      · refine am_q_aload_n rfl rfl ?_
        refine am_q_iconst (v := nI 4) rfl rfl ?_
        refine am_q_call rfl rfl (s_wrong _ 4 n i ν hT.2.2.1) rfl ?_
        refine am_q_ireturn rfl rfl (sB_ok _) ?_
        have e : pNumI X i lo hi = .inl (wr X i 4) := by unfold pNumI; rw [if_neg (fun z => z h3), if_pos (Or.inl c_19)]
        rw [e]
        exact ⟨_, rfl, frT3_7, am_up_eq⟩
      · refine am_q_aload_n rfl rfl ?_
        refine am_q_gi rfl rfl rfl h5 ?_
        refine am_q_iload_n rfl rfl ?_
        refine am_q_icmp_le rfl (fun c_27 => ?_) (fun c_27 => ?_)
        · refine am_q_iconst (v := nI 1) rfl rfl ?_
          refine am_q_ireturn rfl rfl rfl ?_
          have e : pNumI X i lo hi = .inr (nu X i) := by unfold pNumI; rw [if_neg (fun z => z h3), if_neg (by rintro (z | z); omega; exact Int32.not_lt.mpr c_27 z)]
          rw [e]
          exact ⟨_, rfl, frT3_rf μ, rfl, h3⟩
        · refine am_q_aload_n rfl rfl ?_
          refine am_q_iconst (v := nI 4) rfl rfl ?_
          refine am_q_call rfl rfl (s_wrong _ 4 n i ν hT.2.2.1) rfl ?_
          refine am_q_ireturn rfl rfl (sB_ok _) ?_
          have e : pNumI X i lo hi = .inl (wr X i 4) := by unfold pNumI; rw [if_neg (fun z => z h3), if_pos (Or.inr (fa_of_nle c_27))]
          rw [e]
          exact ⟨_, rfl, frT3_7, am_up_eq⟩
    · refine am_q_aload_n rfl rfl ?_
      refine am_q_iconst (v := nI 1) rfl rfl ?_
      refine am_q_call rfl rfl (s_wrong _ 1 n i ν hT.2.2.1) rfl ?_
      refine am_q_ireturn rfl rfl (sB_ok _) ?_
      have e : pNumI X i lo hi = .inl (wr X i 1) := by unfold pNumI; rw [if_pos (fun z => c_5 (tkc_3.mpr z))]
      rw [e]
      exact ⟨_, rfl, frT3_7, am_up_eq⟩)
  obtain ⟨r, h1, μ', h2, h3⟩ := key
  exact ⟨μ', by rw [h1, h2], h3⟩

/-- StoneSecrets$Tape.passNumber(II)I -/
theorem s_passN1 (d : Nat) (hi : Int32) (n i : Nat) {X : tTp} {μ : am_M2} (ν : am_N2) (hX : tpOk X) (hT : xTk μ ν X i) (hL : xLg ν) (lo : Nat) (hlo : lo < 2 ^ 20) (v : Nat) (hr : pNumI X i lo hi = .inr v) : ∃ (μ' : am_M2) (ν' : am_N2), am_run (d + 5) 32 [.ref 3, .int (nI lo), .int hi] (am_hp n μ ν) = some (some (.int (nI v)), am_hp n μ' ν') ∧ xTk μ' ν' X (i + 1) ∧ frK μ μ' ∧ frKL ν ν' ∧ v = nu X i ∧ v < 10000 := by
  have hv : v = nu X i ∧ kd X i = 3 := by
    unfold pNumI at hr
    split at hr
    · cases hr
    · split at hr
      · cases hr
      · rename_i h3 _; cases hr; exact ⟨rfl, by simpa using h3⟩
  have hn := kd_nu hv.2
  have key : ∃ r, am_run (d + 5) 32 [.ref 3, .int (nI lo), .int hi] (am_hp n μ ν) = some r ∧ ∃ (μ' : am_M2) (ν' : am_N2), r = (some (.int (nI v)), am_hp n μ' ν') ∧ xTk μ' ν' X (i + 1) ∧ frK μ μ' ∧ frKL ν ν' ∧ v = nu X i ∧ v < 10000 := am_run_wE (k := 32) (d := d + 4) rfl rfl (Nat.le_of_ble_eq_true rfl) [some (.ref 3), some (.int (nI lo)), some (.int hi), none] rfl (by
    refine am_q_aload_n rfl rfl ?_
    refine am_q_iload_n rfl rfl ?_
    refine am_q_iload_n rfl rfl ?_
    obtain ⟨μ1, hc1, hf1, hm1⟩ := s_within _ hi n i ν hX hT hL lo hlo
    rw [hr] at hc1 hm1
    refine am_q_call rfl rfl (hc1) rfl ?_
    refine am_q_if_neB rfl (fun c_6 => ?_) (fun c_6 => by simp at c_6)
    refine am_q_aload_n rfl rfl ?_
    refine am_q_gi rfl rfl rfl (show μ1 3 5 = nI v from by rw [hm1.1, hv.1]; exact hT.2.2.2.2.1 hv.2) ?_
    refine am_q_istore_n [some _, some _, some _, some _] rfl (Nat.le_of_ble_eq_true rfl) rfl ?_
    refine am_q_aload_n rfl rfl ?_
    rw [hm1.1]
    obtain ⟨μ2, ν2, hc2, hT2, hf2, hl2⟩ := s_step _ n (i + 1) ν hX hT.1 hT.2.1 hL
    refine am_q_call rfl rfl (hc2) rfl ?_
    refine am_q_iload_n rfl rfl ?_
    refine am_q_ireturn rfl rfl rfl ?_
    exact ⟨_, _, rfl, hT2, hf2, hl2, hv.1, by omega⟩)
  obtain ⟨r, h1, μ', ν', h2, h3⟩ := key
  exact ⟨μ', ν', by rw [h1, h2], h3⟩

/-- StoneSecrets$Tape.passNumber(II)I -/
theorem s_passN0 (d : Nat) (hi : Int32) (n i : Nat) {X : tTp} {μ : am_M2} (ν : am_N2) (hX : tpOk X) (hT : xTk μ ν X i) (hL : xLg ν) (lo : Nat) (hlo : lo < 2 ^ 20) (c : Nat) (hr : pNumI X i lo hi = .inl c) : ∃ (μ' : am_M2), am_run (d + 5) 32 [.ref 3, .int (nI lo), .int hi] (am_hp n μ ν) = some (some (.int (-1)), am_hp n μ' ν) ∧ frT3 μ μ' ∧ μ' 3 7 = nI c := by
  have key : ∃ r, am_run (d + 5) 32 [.ref 3, .int (nI lo), .int hi] (am_hp n μ ν) = some r ∧ ∃ (μ' : am_M2), r = (some (.int (-1)), am_hp n μ' ν) ∧ frT3 μ μ' ∧ μ' 3 7 = nI c := am_run_wE (k := 32) (d := d + 4) rfl rfl (Nat.le_of_ble_eq_true rfl) [some (.ref 3), some (.int (nI lo)), some (.int hi), none] rfl (by
    refine am_q_aload_n rfl rfl ?_
    refine am_q_iload_n rfl rfl ?_
    refine am_q_iload_n rfl rfl ?_
    obtain ⟨μ1, hc1, hf1, hm1⟩ := s_within _ hi n i ν hX hT hL lo hlo
    rw [hr] at hc1 hm1
    refine am_q_call rfl rfl (hc1) rfl ?_
    refine am_q_if_neB rfl (fun c_6 => by simp at c_6) (fun c_6 => ?_)
    refine am_q_iconst (v := -1) rfl rfl ?_
    refine am_q_ireturn rfl rfl rfl ?_
    exact ⟨_, rfl, hf1, hm1⟩)
  obtain ⟨r, h1, μ', h2, h3⟩ := key
  exact ⟨μ', by rw [h1, h2], h3⟩

/-- StoneSecrets$Tape.empty()V -/
theorem s_empty (d : Nat) (n : Nat) (μ : am_M2) (ν : am_N2) : am_run (d + 1) 53 [.ref 3] (am_hp n μ ν) = some (none, am_hp n (am_up μ 3 1 (nI 0)) ν) := by
  refine am_r53 (d := d + 0) (Nat.le_of_ble_eq_true rfl) [some (.ref 3)] rfl ?_
  refine am_q_aload_n rfl rfl ?_
  refine am_q_iconst (v := nI 0) rfl rfl ?_
  refine am_q_pi rfl rfl rfl (Or.inl rfl) ?_
  refine am_q_return rfl rfl ?_
  rfl

/-- StoneSecrets$Tape.open()V -/
theorem s_open (d : Nat) (n : Nat) {X : tTp} {μ : am_M2} (ν : am_N2) (hX : tpOk X) (hT : xTp μ X) (hL : xLg ν) : ∃ (μ' : am_M2) (ν' : am_N2), am_run (d + 5) 14 [.ref 3] (am_hp n μ ν) = some (none, am_hp n μ' ν') ∧ xTk μ' ν' X 0 ∧ frT3 μ μ' ∧ frKL ν ν' := by
  have key : ∃ r, am_run (d + 5) 14 [.ref 3] (am_hp n μ ν) = some r ∧ ∃ (μ' : am_M2) (ν' : am_N2), r = (none, am_hp n μ' ν') ∧ xTk μ' ν' X 0 ∧ frT3 μ μ' ∧ frKL ν ν' := am_run_wE (k := 14) (d := d + 4) rfl rfl (Nat.le_of_ble_eq_true rfl) [some (.ref 3)] rfl (by
    refine am_q_aload_n rfl rfl ?_
    refine am_q_iconst (v := nI 0) rfl rfl ?_
    refine am_q_pi rfl rfl rfl (Or.inl rfl) ?_
    refine am_q_aload_n rfl rfl ?_
    refine am_q_iconst (v := nI 0) rfl rfl ?_
    refine am_q_pi rfl rfl rfl (Or.inl rfl) ?_
    refine am_q_aload_n rfl rfl ?_
    obtain ⟨μ2, ν2, hc2, hT2, hf2, hl2⟩ := s_step _ n 0 (μ := am_up (am_up μ 3 2 (nI 0)) 3 7 (nI 0)) ν hX ⟨(am_up_ne (by omega)).trans ((am_up_ne (by omega)).trans hT.1), fun j hj => (am_up_ne (by omega)).trans ((am_up_ne (by omega)).trans (hT.2 j hj))⟩ ((am_up_ne (by omega)).trans am_up_eq) hL
    refine am_q_call rfl rfl (hc2) rfl ?_
    refine am_q_return rfl rfl ?_
    exact ⟨_, _, rfl, hT2, fun a b c => (hf2 a b (by omega)).trans (by rw [am_up_ne (by omega), am_up_ne (by omega)]), hl2⟩)
  obtain ⟨r, h1, μ', ν', h2, h3⟩ := key
  exact ⟨μ', ν', by rw [h1, h2], h3⟩
