def frK (μ μ' : am_M2) : Prop := ∀ i k, ¬ (i = 3 ∧ 2 ≤ k ∧ k ≤ 5) → μ' i k = μ i k
def frKL (ν ν' : am_N2) : Prop := ∀ i k, ¬ (i = 3 ∧ k = 6) → ν' i k = ν i k
theorem frK_tr {μ μ' μ'' : am_M2} (h : frK μ μ') (h' : frK μ' μ'') : frK μ μ'' := fun i k q => (h' i k q).trans (h i k q)
theorem frKL_tr {ν ν' ν'' : am_N2} (h : frKL ν ν') (h' : frKL ν' ν'') : frKL ν ν'' := fun i k q => (h' i k q).trans (h i k q)
theorem frKL_rf (ν : am_N2) : frKL ν ν := fun _ _ _ => rfl
theorem frK_rf (μ : am_M2) : frK μ μ := fun _ _ _ => rfl
theorem frKL_up (ν : am_N2) (v : Int64) : frKL ν (am_upL ν 3 6 v) := fun i k q => by
  unfold am_upL
  by_cases e : i = 3
  · rw [if_pos e, if_neg (fun z => q ⟨e, z⟩)]
  · rw [if_neg e]
theorem upL36 (ν : am_N2) (v : Int64) : am_upL ν 3 6 v 3 6 = v := by unfold am_upL; rw [if_pos rfl, if_pos rfl]
theorem frK_up {μ : am_M2} {k : Nat} {v : Int32} (h : 2 ≤ k ∧ k ≤ 5) : frK μ (am_up μ 3 k v) := fun i q z => am_up_ne (by omega)
theorem xTp_S {μ μ' : am_M2} {X : tTp} (h : frK μ μ') (hT : xTp μ X) : xTp μ' X := ⟨(h 3 1 (by omega)).trans hT.1, fun j hj => (h 4 j (by omega)).trans (hT.2 j hj)⟩
theorem xLg_S {ν ν' : am_N2} (h : frKL ν ν') (hL : xLg ν) : xLg ν' := fun r hr => (h 1 r (by omega)).trans (hL r hr)
def xTk (μ : am_M2) (ν : am_N2) (X : tTp) (i : Nat) : Prop := xTp μ X ∧ μ 3 2 = nI (en X (i + 1)) ∧ μ 3 4 = nI (pl X i) ∧ μ 3 3 = nI (tkc X i) ∧ (kd X i = 3 → μ 3 5 = nI (nu X i)) ∧ (kd X i = 2 → ν 3 6 = lN (wd X i))
theorem sh8 (a : Nat) : lN a <<< ((nI 8).toInt64 &&& 63) = lN (a * 256) := by
  rw [← Int64.toBitVec_inj, Int64.toBitVec_shiftLeft, bv_sm 8 (by decide)]
  show (BitVec.ofNat 64 a) <<< (BitVec.ofNat 64 8) = BitVec.ofNat 64 (a * 256)
  apply BitVec.eq_of_toNat_eq
  rw [BitVec.shiftLeft_eq', BitVec.toNat_shiftLeft]
  simp [Nat.shiftLeft_eq]
theorem lN_or (a b : Nat) : lN a ||| lN b = lN (a ||| b) := by
  rw [← Int64.toBitVec_inj, Int64.toBitVec_or]
  show BitVec.ofNat 64 a ||| BitVec.ofNat 64 b = BitVec.ofNat 64 (a ||| b)
  rw [BitVec.ofNat_or]
theorem wdF_s (X : tTp) (q k : Nat) : wdF X q (k + 1) = wdF X q k * 256 + X.1 (q + k) := rfl
theorem nuF_s (X : tTp) (q k : Nat) : nuF X q (k + 1) = nuF X q k * 10 + (X.1 (q + k) - 48) := rfl
theorem word_s (X : tTp) (q k : Nat) (h : X.1 (q + k) < 256) : (lN (wdF X q k) <<< ((nI 8).toInt64 &&& 63)) ||| lN (X.1 (q + k)) = lN (wdF X q (k + 1)) := by
  rw [sh8, lN_or, wdF_s, Nat.mul_comm, show (256 : Nat) = 2 ^ 8 from rfl, ← Nat.two_pow_add_eq_or_of_lt h]
def frN (μ μ' : am_M2) : Prop := ∀ i k, ¬ (i = 3 ∧ k = 2) → μ' i k = μ i k
theorem frN_up (μ : am_M2) (v : Int32) : frN μ (am_up μ 3 2 v) := fun i k q => am_up_ne (by omega)
theorem frN_tr {μ μ' μ'' : am_M2} (h : frN μ μ') (h' : frN μ' μ'') : frN μ μ'' := fun i k q => (h' i k q).trans (h i k q)
theorem frK_N {μ μ' : am_M2} (h : frN μ μ') : frK μ μ' := fun i k q => h i k (by omega)
theorem xTp_N {μ μ' : am_M2} {X : tTp} (h : frN μ μ') (hT : xTp μ X) : xTp μ' X := xTp_S (frK_N h) hT
theorem tp_128 {X : tTp} (hX : tpOk X) {j : Nat} (h : j < X.2) : X.1 j < 128 := kn_128 (hX.2 j h)
theorem s_swL (d : Nat) (n q e : Nat) {X : tTp} {μ : am_M2} (ν : am_N2) (hX : tpOk X) (hT : xTp μ X) (hqe : q < e) (hen : e ≤ X.2) (hle : ∀ x, q ≤ x → x < e → leB (X.1 x) = true) (hno : e < X.2 → leB (X.1 e) = false) (Q : am_R → Prop) (K : ∀ μ1 ν1, frN μ μ1 → μ1 3 2 = nI e → ν1 3 6 = lN (wdF X q (e - q)) → frKL ν ν1 → am_w (d + 2) (Option.none : Option FieldType) am_g18 66 [some (.ref 3)] [] (am_hp n μ1 ν1) Q) : ∀ (m j : Nat) (μ1 : am_M2) (ν1 : am_N2), j + m = e → frN μ μ1 ∧ μ1 3 2 = nI j ∧ q ≤ j ∧ ν1 3 6 = lN (wdF X q (j - q)) ∧ frKL ν ν1 → am_w (d + 2) (Option.none : Option FieldType) am_g18 5 [some (.ref 3)] [] (am_hp n μ1 ν1) (Q) := by
  intro m
  induction m with
  | zero =>
    intro j μ1 ν1 hj hinv
    have hT1 := xTp_N hinv.1 hT
    have h1000 := hX.1
    have hje : j = e := by omega
    refine am_q_aload_n rfl rfl ?_
    refine am_q_gi rfl rfl rfl hinv.2.1 ?_
    refine am_q_aload_n rfl rfl ?_
    refine am_q_gi rfl rfl rfl hT1.1 ?_
    refine am_q_igeN rfl (by omega) (by omega) (fun c_13 => ?_) (fun c_13 => ?_)
    · exact K μ1 ν1 hinv.1 (by rw [← hje]; exact hinv.2.1) (by rw [← hje]; exact hinv.2.2.2.1) hinv.2.2.2.2
    · refine am_q_aload_n rfl rfl ?_
      refine am_q_gr rfl rfl rfl ?_
      refine am_q_aload_n rfl rfl ?_
      refine am_q_gi rfl rfl rfl hinv.2.1 ?_
      refine am_q_cald rfl rfl (am_ix_nI (show j < 1000 by omega) (by decide)) (hT1.2 j (by omega)) ?_
      have hcj := tp_128 hX c_13
      refine am_q_call rfl rfl (s_isLetter _ (X.1 j) (by omega) _) rfl ?_
      refine am_q_if_eqB rfl (fun c_28 => ?_) (fun c_28 => by rw [hje, hno (by omega)] at c_28; cases c_28)
      exact K μ1 ν1 hinv.1 (by rw [← hje]; exact hinv.2.1) (by rw [← hje]; exact hinv.2.2.2.1) hinv.2.2.2.2
  | succ m ih =>
    intro j μ1 ν1 hj hinv
    have hT1 := xTp_N hinv.1 hT
    have h1000 := hX.1
    have hjq := hinv.2.2.1
    have hlj := hle j hjq (by omega)
    have hcj := tp_128 hX (show j < X.2 by omega)
    refine am_q_aload_n rfl rfl ?_
    refine am_q_gi rfl rfl rfl hinv.2.1 ?_
    refine am_q_aload_n rfl rfl ?_
    refine am_q_gi rfl rfl rfl hT1.1 ?_
    refine am_q_igeN rfl (by omega) (by omega) (fun c_13 => absurd c_13 (by omega)) (fun c_13 => ?_)
    refine am_q_aload_n rfl rfl ?_
    refine am_q_gr rfl rfl rfl ?_
    refine am_q_aload_n rfl rfl ?_
    refine am_q_gi rfl rfl rfl hinv.2.1 ?_
    refine am_q_cald rfl rfl (am_ix_nI (show j < 1000 by omega) (by decide)) (hT1.2 j (by omega)) ?_
    refine am_q_call rfl rfl (s_isLetter _ (X.1 j) (by omega) _) rfl ?_
    refine am_q_if_eqB rfl (fun c_28 => by rw [hlj] at c_28; cases c_28) (fun c_28 => ?_)
    refine am_q_aload_n rfl rfl ?_
    refine am_q_aload_n rfl rfl ?_
    refine am_q_gl rfl rfl rfl hinv.2.2.2.1 ?_
    refine am_q_bipush (v := nI 8) rfl rfl ?_
    refine am_q_lshl rfl rfl ?_
    refine am_q_aload_n rfl rfl ?_
    refine am_q_gr rfl rfl rfl ?_
    refine am_q_aload_n rfl rfl ?_
    refine am_q_gi rfl rfl rfl hinv.2.1 ?_
    refine am_q_cald rfl rfl (am_ix_nI (show j < 1000 by omega) (by decide)) (hT1.2 j (by omega)) ?_
    refine am_q_i2l rfl (nI_l (by omega)) ?_
    refine am_q_lor rfl (show _ = lN (wdF X q (j - q + 1)) from by have := word_s X q (j - q) (by rw [show q + (j - q) = j by omega]; omega); rw [show q + (j - q) = j by omega] at this; exact this) ?_
    refine am_q_pl rfl rfl rfl ?_
    refine am_q_aload_n rfl rfl ?_
    refine am_q_dupr rfl ?_
    refine am_q_gi rfl rfl rfl hinv.2.1 ?_
    refine am_q_iconst (v := nI 1) rfl rfl ?_
    refine am_q_iadd rfl (nI_add _ _) ?_
    refine am_q_pi rfl rfl rfl (Or.inl rfl) ?_
    refine am_q_goto rfl ?_
    exact ih (j + 1) _ _ (by omega) ⟨frN_tr hinv.1 (frN_up _ _), am_up_eq, by omega, by rw [upL36, show j + 1 - q = j - q + 1 by omega], frKL_tr hinv.2.2.2.2 (frKL_up _ _)⟩

theorem s_swT (d : Nat) (n q e : Nat) {X : tTp} {μ : am_M2} (ν : am_N2) (hX : tpOk X) (hT : xTp μ X) (hqe : q < e) (hen : e ≤ X.2) (hle : ∀ x, q ≤ x → x < e → leB (X.1 x) = true) (hno : e < X.2 → leB (X.1 e) = false) (hL : xLg ν) (μ1 : am_M2) (ν1 : am_N2) (f1 : frN μ μ1) (a1 : μ1 3 2 = nI e) (a0 : μ1 3 4 = nI q) (a2 : ν1 3 6 = lN (wdF X q (e - q))) (f2 : frKL ν ν1) : am_w (d + 2) (Option.none : Option FieldType) am_g18 66 [some (.ref 3)] [] (am_hp n μ1 ν1) (fun r => ∃ (μ' : am_M2) (ν' : am_N2), r = (none, am_hp n μ' ν') ∧ frK μ μ' ∧ μ' 3 4 = nI q ∧ μ' 3 2 = nI e ∧ μ' 3 3 = nI (if 8 < e - q then 1 else (if lgI (wdF X q (e - q)) < 18 then 128 + lgI (wdF X q (e - q)) else 2)) ∧ ν' 3 6 = lN (wdF X q (e - q)) ∧ frKL ν ν') := by
  have h1000 := hX.1
  refine am_q_aload_n rfl rfl ?_
  refine am_q_aload_n rfl rfl ?_
  refine am_q_gi rfl rfl rfl a1 ?_
  refine am_q_aload_n rfl rfl ?_
  refine am_q_gi rfl rfl rfl a0 ?_
  refine am_q_isub rfl (pk_sub (by omega)) ?_
  refine am_q_bipush (v := nI 8) rfl rfl ?_
  refine am_q_ileN rfl (by omega) (by omega) (fun c_78 => ?_) (fun c_78 => ?_)
  · refine am_q_aload_n rfl rfl ?_
    have hw := w63 (X := X) (q := q) (m := e - q) (by omega) (fun k hk => tp_128 hX (by omega))
    refine am_q_call rfl rfl (s_wordToken _ n _ μ1 ν1 (xLg_S f2 hL) hw a2) rfl ?_
    refine am_q_pi rfl rfl rfl (Or.inl rfl) ?_
    refine am_q_return rfl rfl ?_
    refine ⟨_, _, rfl, frK_tr (frK_N f1) (frK_up (by omega)), (am_up_ne (by omega)).trans a0, (am_up_ne (by omega)).trans a1, ?_, a2, f2⟩
    rw [am_up_eq]
    first | (rw [if_neg (show ¬ 8 < e - q from Nat.not_lt.mpr c_78)]) | (rw [if_pos (show 8 < e - q from c_78)])
  · refine am_q_iconst (v := nI 1) rfl rfl ?_
    refine am_q_goto rfl ?_
    refine am_q_pi rfl rfl rfl (Or.inl rfl) ?_
    refine am_q_return rfl rfl ?_
    refine ⟨_, _, rfl, frK_tr (frK_N f1) (frK_up (by omega)), (am_up_ne (by omega)).trans a0, (am_up_ne (by omega)).trans a1, ?_, a2, f2⟩
    rw [am_up_eq]
    first | (rw [if_neg (show ¬ 8 < e - q from Nat.not_lt.mpr c_78)]) | (rw [if_pos (show 8 < e - q from c_78)])

/-- StoneSecrets$Tape.stepWord()V -/
theorem s_stepWord (d : Nat) (n q e : Nat) {X : tTp} {μ : am_M2} (ν : am_N2) (hX : tpOk X) (hT : xTp μ X) (hqe : q < e) (hen : e ≤ X.2) (hle : ∀ x, q ≤ x → x < e → leB (X.1 x) = true) (hno : e < X.2 → leB (X.1 e) = false) (hL : xLg ν) (hn : μ 3 2 = nI q) (hp : μ 3 4 = nI q) : ∃ (μ' : am_M2) (ν' : am_N2), am_run (d + 3) 18 [.ref 3] (am_hp n μ ν) = some (none, am_hp n μ' ν') ∧ frK μ μ' ∧ μ' 3 4 = nI q ∧ μ' 3 2 = nI e ∧ μ' 3 3 = nI (if 8 < e - q then 1 else (if lgI (wdF X q (e - q)) < 18 then 128 + lgI (wdF X q (e - q)) else 2)) ∧ ν' 3 6 = lN (wdF X q (e - q)) ∧ frKL ν ν' := by
  have key : ∃ r, am_run (d + 3) 18 [.ref 3] (am_hp n μ ν) = some r ∧ ∃ (μ' : am_M2) (ν' : am_N2), r = (none, am_hp n μ' ν') ∧ frK μ μ' ∧ μ' 3 4 = nI q ∧ μ' 3 2 = nI e ∧ μ' 3 3 = nI (if 8 < e - q then 1 else (if lgI (wdF X q (e - q)) < 18 then 128 + lgI (wdF X q (e - q)) else 2)) ∧ ν' 3 6 = lN (wdF X q (e - q)) ∧ frKL ν ν' := am_run_wE (k := 18) (d := d + 2) rfl rfl (Nat.le_of_ble_eq_true rfl) [some (.ref 3)] rfl (by
    refine am_q_aload_n rfl rfl ?_
    refine am_q_lconst (v := lN 0) rfl rfl ?_
    refine am_q_pl rfl rfl rfl ?_
    refine s_swL d n q e ν hX hT hqe hen hle hno _ (fun μ1 ν1 f1 a1 a2 f2 => ?_) (e - q) q μ _ (by omega) ⟨fun _ _ _ => rfl, hn, Nat.le_refl _, by rw [Nat.sub_self]; exact upL36 _ _, frKL_up _ _⟩
    exact s_swT d n q e ν hX hT hqe hen hle hno hL μ1 ν1 f1 a1 ((f1 3 4 (by omega)).trans hp) a2 f2)
  obtain ⟨r, h1, μ', ν', h2, h3⟩ := key
  exact ⟨μ', ν', by rw [h1, h2], h3⟩

theorem s_snL (d : Nat) (n q e : Nat) {X : tTp} {μ : am_M2} (ν : am_N2) (hX : tpOk X) (hT : xTp μ X) (hqe : q < e) (hen : e ≤ X.2) (hle : ∀ x, q ≤ x → x < e → diB (X.1 x) = true) (hno : e < X.2 → diB (X.1 e) = false) (Q : am_R → Prop) (K : ∀ μ1, (∀ i k, ¬ (i = 3 ∧ (k = 2 ∨ k = 5)) → μ1 i k = μ i k) → μ1 3 2 = nI e → μ1 3 5 = nI (nuF X q (e - q)) → am_w (d + 2) (Option.none : Option FieldType) am_g21 68 [some (.ref 3)] [] (am_hp n μ1 ν) Q) : ∀ (m j : Nat) (μ1 : am_M2), j + m = e → (∀ i k, ¬ (i = 3 ∧ (k = 2 ∨ k = 5)) → μ1 i k = μ i k) ∧ μ1 3 2 = nI j ∧ q ≤ j ∧ μ1 3 5 = nI (nuF X q (j - q)) → am_w (d + 2) (Option.none : Option FieldType) am_g21 5 [some (.ref 3)] [] (am_hp n μ1 ν) (Q) := by
  intro m
  induction m with
  | zero =>
    intro j μ1 hj hinv
    have hT1 : xTp μ1 X := xTp_S (fun i k z => hinv.1 i k (by omega)) hT
    have h1000 := hX.1
    have hje : j = e := by omega
    refine am_q_aload_n rfl rfl ?_
    refine am_q_gi rfl rfl rfl hinv.2.1 ?_
    refine am_q_aload_n rfl rfl ?_
    refine am_q_gi rfl rfl rfl hT1.1 ?_
    refine am_q_igeN rfl (by omega) (by omega) (fun c_13 => ?_) (fun c_13 => ?_)
    · exact K μ1 hinv.1 (by rw [← hje]; exact hinv.2.1) (by rw [← hje]; exact hinv.2.2.2)
    · refine am_q_aload_n rfl rfl ?_
      refine am_q_gr rfl rfl rfl ?_
      refine am_q_aload_n rfl rfl ?_
      refine am_q_gi rfl rfl rfl hinv.2.1 ?_
      refine am_q_cald rfl rfl (am_ix_nI (show j < 1000 by omega) (by decide)) (hT1.2 j (by omega)) ?_
      have hcj := tp_128 hX c_13
      refine am_q_call rfl rfl (s_isNumeral _ (X.1 j) (by omega) _) rfl ?_
      refine am_q_if_eqB rfl (fun c_28 => ?_) (fun c_28 => by rw [hje, hno (by omega)] at c_28; cases c_28)
      exact K μ1 hinv.1 (by rw [← hje]; exact hinv.2.1) (by rw [← hje]; exact hinv.2.2.2)
  | succ m ih =>
    intro j μ1 hj hinv
    have hT1 : xTp μ1 X := xTp_S (fun i k z => hinv.1 i k (by omega)) hT
    have h1000 := hX.1
    have hjq := hinv.2.2.1
    have hlj := hle j hjq (by omega)
    have hcj := tp_128 hX (show j < X.2 by omega)
    have hd1 : 48 ≤ X.1 j := by unfold diB at hlj; simp at hlj; omega
    refine am_q_aload_n rfl rfl ?_
    refine am_q_gi rfl rfl rfl hinv.2.1 ?_
    refine am_q_aload_n rfl rfl ?_
    refine am_q_gi rfl rfl rfl hT1.1 ?_
    refine am_q_igeN rfl (by omega) (by omega) (fun c_13 => absurd c_13 (by omega)) (fun c_13 => ?_)
    refine am_q_aload_n rfl rfl ?_
    refine am_q_gr rfl rfl rfl ?_
    refine am_q_aload_n rfl rfl ?_
    refine am_q_gi rfl rfl rfl hinv.2.1 ?_
    refine am_q_cald rfl rfl (am_ix_nI (show j < 1000 by omega) (by decide)) (hT1.2 j (by omega)) ?_
    refine am_q_call rfl rfl (s_isNumeral _ (X.1 j) (by omega) _) rfl ?_
    refine am_q_if_eqB rfl (fun c_28 => by rw [hlj] at c_28; cases c_28) (fun c_28 => ?_)
    refine am_q_aload_n rfl rfl ?_
    refine am_q_aload_n rfl rfl ?_
    refine am_q_gi rfl rfl rfl hinv.2.2.2 ?_
    refine am_q_bipush (v := nI 10) rfl rfl ?_
    refine am_q_imul rfl (pk_mul _ _) ?_
    refine am_q_aload_n rfl rfl ?_
    refine am_q_gr rfl rfl rfl ?_
    refine am_q_aload_n rfl rfl ?_
    refine am_q_gi rfl rfl rfl hinv.2.1 ?_
    refine am_q_cald rfl rfl (am_ix_nI (show j < 1000 by omega) (by decide)) (hT1.2 j (by omega)) ?_
    refine am_q_bipush (v := nI 48) rfl rfl ?_
    refine am_q_isub rfl (pk_sub hd1) ?_
    refine am_q_iadd rfl (nI_add _ _) ?_
    refine am_q_pi rfl rfl rfl (Or.inl rfl) ?_
    refine am_q_aload_n rfl rfl ?_
    refine am_q_dupr rfl ?_
    refine am_q_gi rfl rfl rfl (show am_up μ1 3 5 _ 3 2 = nI j from (am_up_ne (by omega)).trans hinv.2.1) ?_
    refine am_q_iconst (v := nI 1) rfl rfl ?_
    refine am_q_iadd rfl (nI_add _ _) ?_
    refine am_q_pi rfl rfl rfl (Or.inl rfl) ?_
    refine am_q_goto rfl ?_
    exact ih (j + 1) _ (by omega) ⟨fun i k z => by rw [am_up_ne (by omega), am_up_ne (by omega)]; exact hinv.1 i k z, am_up_eq, by omega, by rw [am_up_ne (by omega), am_up_eq, show j + 1 - q = j - q + 1 by omega, nuF_s, show q + (j - q) = j by omega]⟩

theorem s_snT (d : Nat) (n q e : Nat) {X : tTp} {μ : am_M2} (ν : am_N2) (hX : tpOk X) (hT : xTp μ X) (hqe : q < e) (hen : e ≤ X.2) (hle : ∀ x, q ≤ x → x < e → diB (X.1 x) = true) (hno : e < X.2 → diB (X.1 e) = false) (μ1 : am_M2) (f1 : ∀ i k, ¬ (i = 3 ∧ (k = 2 ∨ k = 5)) → μ1 i k = μ i k) (a1 : μ1 3 2 = nI e) (a0 : μ1 3 4 = nI q) (a2 : μ1 3 5 = nI (nuF X q (e - q))) : am_w (d + 2) (Option.none : Option FieldType) am_g21 68 [some (.ref 3)] [] (am_hp n μ1 ν) (fun r => ∃ (μ' : am_M2), r = (none, am_hp n μ' ν) ∧ frK μ μ' ∧ μ' 3 4 = nI q ∧ μ' 3 2 = nI e ∧ μ' 3 3 = nI (if 4 < e - q then 1 else 3) ∧ μ' 3 5 = nI (nuF X q (e - q))) := by
  have h1000 := hX.1
  refine am_q_aload_n rfl rfl ?_
  refine am_q_aload_n rfl rfl ?_
  refine am_q_gi rfl rfl rfl a1 ?_
  refine am_q_aload_n rfl rfl ?_
  refine am_q_gi rfl rfl rfl a0 ?_
  refine am_q_isub rfl (pk_sub (by omega)) ?_
  refine am_q_iconst (v := nI 4) rfl rfl ?_
  refine am_q_ileN rfl (by omega) (by omega) (fun c_79 => ?_) (fun c_79 => ?_)
  · refine am_q_iconst (v := nI 3) rfl rfl ?_
    refine am_q_pi rfl rfl rfl (Or.inl rfl) ?_
    refine am_q_return rfl rfl ?_
    refine ⟨_, rfl, fun i k z => (am_up_ne (by omega)).trans (f1 i k (by omega)), (am_up_ne (by omega)).trans a0, (am_up_ne (by omega)).trans a1, ?_, (am_up_ne (by omega)).trans a2⟩
    rw [am_up_eq]
    first | (rw [if_neg (by omega)]) | (rw [if_pos (by omega)])
  · refine am_q_iconst (v := nI 1) rfl rfl ?_
    refine am_q_goto rfl ?_
    refine am_q_pi rfl rfl rfl (Or.inl rfl) ?_
    refine am_q_return rfl rfl ?_
    refine ⟨_, rfl, fun i k z => (am_up_ne (by omega)).trans (f1 i k (by omega)), (am_up_ne (by omega)).trans a0, (am_up_ne (by omega)).trans a1, ?_, (am_up_ne (by omega)).trans a2⟩
    rw [am_up_eq]
    first | (rw [if_neg (by omega)]) | (rw [if_pos (by omega)])

/-- StoneSecrets$Tape.stepNumber()V -/
theorem s_stepNumber (d : Nat) (n q e : Nat) {X : tTp} {μ : am_M2} (ν : am_N2) (hX : tpOk X) (hT : xTp μ X) (hqe : q < e) (hen : e ≤ X.2) (hle : ∀ x, q ≤ x → x < e → diB (X.1 x) = true) (hno : e < X.2 → diB (X.1 e) = false) (hn : μ 3 2 = nI q) (hp : μ 3 4 = nI q) : ∃ (μ' : am_M2), am_run (d + 3) 21 [.ref 3] (am_hp n μ ν) = some (none, am_hp n μ' ν) ∧ frK μ μ' ∧ μ' 3 4 = nI q ∧ μ' 3 2 = nI e ∧ μ' 3 3 = nI (if 4 < e - q then 1 else 3) ∧ μ' 3 5 = nI (nuF X q (e - q)) := by
  have key : ∃ r, am_run (d + 3) 21 [.ref 3] (am_hp n μ ν) = some r ∧ ∃ (μ' : am_M2), r = (none, am_hp n μ' ν) ∧ frK μ μ' ∧ μ' 3 4 = nI q ∧ μ' 3 2 = nI e ∧ μ' 3 3 = nI (if 4 < e - q then 1 else 3) ∧ μ' 3 5 = nI (nuF X q (e - q)) := am_run_wE (k := 21) (d := d + 2) rfl rfl (Nat.le_of_ble_eq_true rfl) [some (.ref 3)] rfl (by
    refine am_q_aload_n rfl rfl ?_
    refine am_q_iconst (v := nI 0) rfl rfl ?_
    refine am_q_pi rfl rfl rfl (Or.inl rfl) ?_
    refine s_snL d n q e ν hX hT hqe hen hle hno _ (fun μ1 f1 a1 a2 => ?_) (e - q) q _ (by omega) ⟨fun i k z => am_up_ne (by omega), (am_up_ne (by omega)).trans hn, Nat.le_refl _, by rw [Nat.sub_self]; exact am_up_eq⟩
    exact s_snT d n q e ν hX hT hqe hen hle hno μ1 f1 a1 ((f1 3 4 (by omega)).trans hp) a2)
  obtain ⟨r, h1, μ', h2, h3⟩ := key
  exact ⟨μ', by rw [h1, h2], h3⟩
