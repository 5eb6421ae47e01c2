/-- the table -/
def xTb (V : sVal) (t sp b : Nat) (μ : am_M2) : Prop := μ 125 5 = nI sp ∧ ∀ a s nb, a ≤ sp → s < vN V → b.testBit s = true → nb < 3 → μ 126 (a * 18 + s * 3 + nb) = nI (soo V t sp s nb (sp - a))
def frP (μ μ' : am_M2) : Prop := ∀ i, i ≠ 15 → i ≠ 125 → i ≠ 126 → μ' i = μ i
theorem fr_P {μ μ' : am_M2} (h : frP μ μ') : fr μ μ' := fun i k q => by rw [h i (by omega) (by omega) (by omega)]
theorem s_prepA (d t sp b n : Nat) {V : sVal} {μ : am_M2} (ν : am_N2) (hV : xVal μ V) (hO : vOk V) (ht : t < 2 ^ 20) (hsp : sp ≤ 60) (hb : b < 64) (hs5 : μ 125 5 = nI sp) : ∀ (k : Nat) (e g : Nat → Int32) (o5 o6 o7 o8 o9 : Option Value), k ≤ sp → tbD V t sp b k 0 0 g → am_w (d + 4) (Option.none : Option FieldType) am_g103 55 [some (.ref 125), some (.int (nI t)), some (.int (nI sp)), some (.int (nI b)), some (.int (dI k)), o5, o6, o7, o8, o9] [] (am_hp n (am_rw (am_rw μ 15 e) 126 g) ν) (fun y => ∃ e g, y = (none, am_hp n (am_rw (am_rw μ 15 e) 126 g) ν) ∧ tbD V t sp b 0 0 0 g) := by
  have h6 := hO.1.1
  intro k
  induction k with
  | zero =>
    intro e g o5 o6 o7 o8 o9 hk hg
    refine am_q_iload rfl rfl ?_
    refine am_q_if_lt rfl (fun c_57 => ?_) (fun c_57 => absurd c_57 (by decide))
    refine am_q_return rfl rfl ?_
    exact ⟨e, g, rfl, hg⟩
  | succ k ih =>
    intro e g o5 o6 o7 o8 o9 hk hg
    show am_w _ _ _ _ [_, _, _, _, some (.int (nI k)), _, _, _, _, _] _ _ _
    refine am_q_iload rfl rfl ?_
    refine am_q_zltN rfl (by omega) (fun c_57 => absurd c_57 (by omega)) (fun c_57 => ?_)
    refine am_q_aload_n rfl rfl ?_
    refine am_q_gr rfl rfl rfl ?_
    refine am_q_iload_n rfl rfl ?_
    refine am_q_iload rfl rfl ?_
    refine am_q_iadd rfl (nI_add _ _) ?_
    refine am_q_call rfl rfl (s_coldOf _ _ _ (by omega) _ hV hO) rfl ?_
    refine am_q_istore [some _, some _, some _, some _, some _, some _, _, _, _, _] rfl (Nat.le_of_ble_eq_true rfl) rfl ?_
    refine am_q_iconst (v := nI 0) rfl rfl ?_
    refine am_q_istore [some _, some _, some _, some _, some _, some _, some _, _, _, _] rfl (Nat.le_of_ble_eq_true rfl) rfl ?_
    refine s_prepS d k (vCold V (t + k)) t sp b n ν hV hO ht hsp hb hs5 (by omega) rfl _ (fun e g o6 o7 o8 o9 hg => ?_) (vN V) 0 e g _ _ _ (by omega) hg
    refine am_q_iinc [some _, some _, some _, some _, some _, some _, _, _, _, _] rfl (c := -1) rfl rfl (Nat.le_of_ble_eq_true rfl) (show nI k + -1 = dI k by cases k; rfl; exact pk_m1 _) rfl ?_
    refine am_q_goto rfl ?_
    exact ih e g _ _ _ _ _ (by omega) hg

theorem s_prepZ (d t sp b n : Nat) {V : sVal} {μ : am_M2} (ν : am_N2) (hV : xVal μ V) (hO : vOk V) (ht : t < 2 ^ 20) (hsp : sp ≤ 60) (hb : b < 64) (hs5 : μ 125 5 = nI sp) : ∀ (m j : Nat) (g : Nat → Int32), j + m = 18 → (∀ k, k < j → g (sp * 18 + k) = nI 61) → am_w (d + 4) (Option.none : Option FieldType) am_g103 17 [some (.ref 125), some (.int (nI t)), some (.int (nI sp)), some (.int (nI b)), some (.int (nI j)), none, none, none, none, none] [] (am_hp n (am_rw μ 126 g) ν) (fun y => ∃ e g, y = (none, am_hp n (am_rw (am_rw μ 15 e) 126 g) ν) ∧ tbD V t sp b 0 0 0 g) := by
  intro m
  induction m with
  | zero =>
    intro j g hj hinv
    refine am_q_iload rfl rfl ?_
    refine am_q_bipush (v := nI 18) rfl rfl ?_
    refine am_q_igeN rfl (by omega) (by omega) (fun c_21 => ?_) (fun c_21 => absurd c_21 (by omega))
    refine am_q_aload_n rfl rfl ?_
    refine am_q_gi rfl rfl rfl hs5 ?_
    refine am_q_iconst (v := nI 1) rfl rfl ?_
    refine am_q_isub rfl (show nI sp - nI 1 = dI sp by cases sp with | zero => rfl | succ q => exact nI_pred _) ?_
    refine am_q_istore [some _, some _, some _, some _, some _, none, none, none, none, none] rfl (Nat.le_of_ble_eq_true rfl) rfl ?_
    have e := s_prepA d t sp b n ν hV hO ht hsp hb hs5 sp (μ 15) g none none none none none (Nat.le_refl _) (fun a s nb h1 h2 h3 h4 h5 => by have h6 := hO.1.1; have : a = sp := (by omega); subst this; rw [Nat.add_assoc, hinv _ (by omega), Nat.sub_self]; rfl)
    rw [am_rw_self] at e
    exact e
  | succ m ih =>
    intro j g hj hinv
    refine am_q_iload rfl rfl ?_
    refine am_q_bipush (v := nI 18) rfl rfl ?_
    refine am_q_igeN rfl (by omega) (by omega) (fun c_21 => absurd c_21 (by omega)) (fun c_21 => ?_)
    refine am_q_aload_n rfl rfl ?_
    refine am_q_gr rfl rfl rfl ?_
    refine am_q_aload_n rfl rfl ?_
    refine am_q_gi rfl rfl rfl hs5 ?_
    refine am_q_bipush (v := nI 18) rfl rfl ?_
    refine am_q_imul rfl (pk_mul _ _) ?_
    refine am_q_iload rfl rfl ?_
    refine am_q_iadd rfl (nI_add _ _) ?_
    refine am_q_bipush (v := nI 61) rfl rfl ?_
    refine am_q_iast rfl rfl (am_ix_nI (show sp * 18 + j < 1098 by omega) (by decide)) rfl ?_
    rw [am_rw_up]
    refine am_q_iinc [some _, some _, some _, some _, some _, none, none, none, none, none] rfl (c := nI 1) rfl rfl (Nat.le_of_ble_eq_true rfl) (nI_add _ _) rfl ?_
    refine am_q_goto rfl ?_
    exact ih (j + 1) _ (by omega) (fun k hk => by by_cases z : k = j; rw [z, pk_us]; rw [pk_un (by omega)]; exact hinv k (by omega))

theorem minmax {sp : Nat} (h : sp ≤ 60) : (if nI 0 < (if nI 60 < nI sp then nI 60 else nI sp) then (if nI 60 < nI sp then nI 60 else nI sp) else nI 0) = nI sp := by
  have h1 : ¬ nI 60 < nI sp := fun q => by have := (nI_ltI (a := 60) (b := sp) (by omega) (by omega)).mp q; omega
  rw [if_neg h1]
  by_cases z : 0 < sp
  · have h2 : nI 0 < nI sp := (nI_ltI (by omega) (by omega)).mpr z
    rw [if_pos h2]
  · have h3 : sp = 0 := by omega
    subst h3
    rfl
/-- StoneSecrets$Future.prepare(III)V -/
theorem s_prepare (d : Nat) (t sp b n : Nat) {V : sVal} {μ : am_M2} (ν : am_N2) (hV : xVal μ V) (hO : vOk V) (ht : t < 2 ^ 20) (hsp : sp ≤ 60) (hb : b < 64) : ∃ (μ' : am_M2), am_run (d + 5) 103 [.ref 125, .int (nI t), .int (nI sp), .int (nI b)] (am_hp n μ ν) = some (none, am_hp n μ' ν) ∧ frP μ μ' ∧ xTb V t sp b μ' := by
  have key : ∃ r, am_run (d + 5) 103 [.ref 125, .int (nI t), .int (nI sp), .int (nI b)] (am_hp n μ ν) = some r ∧ ∃ (μ' : am_M2), r = (none, am_hp n μ' ν) ∧ frP μ μ' ∧ xTb V t sp b μ' := am_run_wE (k := 103) (d := d + 4) rfl rfl (Nat.le_of_ble_eq_true rfl) [some (.ref 125), some (.int (nI t)), some (.int (nI sp)), some (.int (nI b)), none, none, none, none, none, none] rfl (by
    refine am_q_aload_n rfl rfl ?_
    refine am_q_iconst (v := nI 0) rfl rfl ?_
    refine am_q_iload_n rfl rfl ?_
    refine am_q_bipush (v := nI 60) rfl rfl ?_
    refine am_q_call rfl rfl (s_min _ _ _ _) rfl ?_
    refine am_q_call rfl rfl (s_max _ _ _ _) rfl ?_
    rw [minmax hsp]
    refine am_q_pi rfl rfl rfl (Or.inl rfl) ?_
    refine am_q_iconst (v := nI 0) rfl rfl ?_
    refine am_q_istore [some _, some _, some _, some _, some _, none, none, none, none, none] rfl (Nat.le_of_ble_eq_true rfl) rfl ?_
    have e := s_prepZ d t sp b n (μ := am_up μ 125 5 (nI sp)) ν (xVal_fr (fr_up (by omega)) hV) hO ht hsp hb rfl 18 0 (am_up μ 125 5 (nI sp) 126) (by omega) (fun k hk => absurd hk (Nat.not_lt_zero k))
    rw [am_rw_self] at e
    refine am_w_mono (fun y ⟨e, g, h1, h2⟩ => ⟨_, h1, fun i q1 q2 q3 => ?_, rfl, fun a s nb a1 a2 a3 a4 => h2 a s nb a1 a2 a3 a4 (Or.inl (Nat.zero_le _))⟩) e
    funext k
    unfold am_rw am_up
    rw [if_neg q3, if_neg q1, if_neg q2])
  obtain ⟨r, h1, μ', h2, h3⟩ := key
  exact ⟨μ', by rw [h1, h2], h3⟩
