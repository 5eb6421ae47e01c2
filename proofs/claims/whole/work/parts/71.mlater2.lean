theorem later_m {V : sVal} {W : sWall} (hI : sI (vN V) (vP V) W.1 W.2.1) (h6 : vN V ≤ 6) (w : Nat) : sBits (fun s => decide ((goW V W w).1 s = 2)) (vN V) = sLater V W w := by
  unfold sLater
  refine sBits_cong _ (fun s hs => ?_)
  have h := (goW_I hI w s (by omega)).2.1
  rw [goW_pl] at h
  cases hq : (plW V W.2.2 W.2.1 w s).isSome with
  | true => exact decide_eq_true (h.mp hq)
  | false => exact decide_eq_false (fun z => by rw [h.mpr z] at hq; cases hq)
theorem m_latL (d w : Nat) (n : Nat) {V : sVal} {W : sWall} {μ : am_M2} (ν : am_N2) (hV : mVal μ V) (hO : vOk V) (hW : mWall μ 0 W) (hI : sI (vN V) (vP V) W.1 W.2.1) (ht : W.2.2 < 2 ^ 20) (hw : w ≤ 60) : ∀ (m j : Nat) (μ1 : am_M2), j + m = w → fr μ μ1 ∧ mWall μ1 798 (goW V W j) → am_w (d + 6) (Option.some FieldType.int) am_g253 23 [some (.ref 133), some (.int (nI w)), some (.int (nI j))] [] (am_hp n μ1 ν) (fun y => ∃ (μ' : am_M2), y = (some (.int (nI (sLater V W w))), am_hp n μ' ν) ∧ fr μ μ') := by
  intro m
  induction m with
  | zero =>
    intro j μ1 hj hinv
    have h6 := hO.1.1
    have hP8 := hO.1.2.1
    have h8 := sI_8 hO hI
    have hpk := sI_p hI
    have hV1 := mVal_fr hinv.1 hV
    have hjw : j = w := by omega
    subst hjw
    have hc3 := m_who (d + 4) n ν hV1 hO 798 (by decide) hinv.2 (goW_I hI j) 2 (by decide)
    rw [later_m hI h6] at hc3
    refine am_q_iload_n rfl rfl ?_
    refine am_q_iload_n rfl rfl ?_
    refine am_q_igeN rfl (by omega) (by omega) (fun c_25 => ?_) (fun c_25 => absurd c_25 (by omega))
    refine am_q_aload_n rfl rfl ?_
    refine am_q_sipush (v := nI 798) rfl rfl ?_
    refine am_q_iconst (v := nI 2) rfl rfl ?_
    refine am_q_call rfl rfl (hc3) rfl ?_
    refine am_q_ireturn rfl rfl rfl ?_
    exact ⟨_, rfl, hinv.1⟩
  | succ m ih =>
    intro j μ1 hj hinv
    have h6 := hO.1.1
    have hP8 := hO.1.2.1
    have h8 := sI_8 hO hI
    have hpk := sI_p hI
    have hV1 := mVal_fr hinv.1 hV
    have htj := goW_t V W j
    obtain ⟨μ2, hc2, hf2, hW2⟩ := m_goesT d n ν hV1 hO hinv.2 (goW_I hI j) (by omega)
    rw [← goW_s] at hW2
    refine am_q_iload_n rfl rfl ?_
    refine am_q_iload_n rfl rfl ?_
    refine am_q_igeN rfl (by omega) (by omega) (fun c_25 => absurd c_25 (by omega)) (fun c_25 => ?_)
    refine am_q_aload_n rfl rfl ?_
    refine am_q_sipush (v := nI 798) rfl rfl ?_
    refine am_q_call rfl rfl (hc2) rfl ?_
    refine am_q_popi rfl ?_
    refine am_q_iinc [some _, some _, some _] rfl (c := nI 1) rfl rfl (Nat.le_of_ble_eq_true rfl) (nI_add _ _) rfl ?_
    refine am_q_goto rfl ?_
    exact ih (j + 1) _ (by omega) ⟨fr_tr hinv.1 hf2, hW2⟩

/-- StoneSecretsModel.later(I)I -/
theorem m_later (d : Nat) (w : Int32) (n : Nat) {V : sVal} {W : sWall} {μ : am_M2} (ν : am_N2) (hV : mVal μ V) (hO : vOk V) (hW : mWall μ 0 W) (hI : sI (vN V) (vP V) W.1 W.2.1) (ht : W.2.2 < 2 ^ 20) : ∃ (μ' : am_M2), am_run (d + 7) 253 [.ref 133, .int w] (am_hp n μ ν) = some (some (.int (qLater V W w)), am_hp n μ' ν) ∧ fr μ μ' := by
  have h6 := hO.1.1
  have hP8 := hO.1.2.1
  have h8 := sI_8 hO hI
  have hpk := sI_p hI
  have hV0 := mVal_fr (fr_thr μ) hV
  have hW0 := mWall_fr (fr_thr μ) (by decide) hW
  have key : ∃ r, am_run (d + 7) 253 [.ref 133, .int w] (am_hp n μ ν) = some r ∧ ∃ (μ' : am_M2), r = (some (.int (qLater V W w)), am_hp n μ' ν) ∧ fr μ μ' := am_run_wE (k := 253) (d := d + 6) rfl rfl (Nat.le_of_ble_eq_true rfl) [some (.ref 133), some (.int w), none] rfl (by
    refine am_q_aload_n rfl rfl ?_
    refine am_q_iconst (v := nI 0) rfl rfl ?_
    refine am_q_pi rfl rfl rfl (Or.inl rfl) ?_
    refine am_q_iload_n rfl rfl ?_
    refine am_q_iconst (v := nI 0) rfl rfl ?_
    refine am_q_bipush (v := nI 60) rfl rfl ?_
    refine am_q_call rfl rfl (m_within _ _ _ _ _) rfl ?_
    refine am_q_if_neB rfl (fun c_12 => ?_) (fun c_12 => ?_)
    · obtain ⟨k, -, hk, rfl⟩ := rIn_k c_12 (by decide) (by decide)
      refine am_q_aload_n rfl rfl ?_
      obtain ⟨μ1, hc1, hf1, hW1⟩ := m_tries _ n ν hW0
      refine am_q_call rfl rfl (hc1) rfl ?_
      refine am_q_iconst (v := nI 0) rfl rfl ?_
      refine am_q_istore_n [some _, some _, some _] rfl (Nat.le_of_ble_eq_true rfl) rfl ?_
      rw [qLater, if_pos c_12, ik_nI (by omega)]
      exact m_latL d k n ν hV hO hW hI ht hk k 0 _ (by omega) ⟨fr_tr (fr_thr μ) hf1, hW1⟩
    · refine am_q_iconst (v := -1) rfl rfl ?_
      refine am_q_ireturn rfl rfl rfl ?_
      rw [qLater, if_neg (by rw [c_12]; exact Bool.false_ne_true)]
      exact ⟨_, rfl, fr_thr μ⟩)
  obtain ⟨r, h1, μ', h2, h3⟩ := key
  exact ⟨μ', by rw [h1, h2], h3⟩

theorem m_bareL (d : Nat) (n : Nat) {V : sVal} {W : sWall} {μ : am_M2} (ν : am_N2) (hV : mVal μ V) (hO : vOk V) (hW : mWall μ 0 W) (hI : sI (vN V) (vP V) W.1 W.2.1) (ht : W.2.2 < 2 ^ 20) : ∀ (m j : Nat) (μ1 : am_M2), j + m = 61 → fr μ μ1 ∧ mWall μ1 798 (goW V W j) ∧ (∀ w, w < j → decide (sLater V W w = 0) = false) → am_w (d + 6) (Option.some FieldType.int) am_g254 11 [some (.ref 133), some (.int (nI j))] [] (am_hp n μ1 ν) (fun y => ∃ (μ' : am_M2), y = (some (.int (qBare V W)), am_hp n μ' ν) ∧ fr μ μ') := by
  intro m
  induction m with
  | zero =>
    intro j μ1 hj hinv
    have h6 := hO.1.1
    have hP8 := hO.1.2.1
    have h8 := sI_8 hO hI
    have hpk := sI_p hI
    have hq : qBare V W = -1 := by unfold qBare; rw [if_neg (ff_no (fun i hi => hinv.2.2 i (by omega)))]
    refine am_q_iload_n rfl rfl ?_
    refine am_q_bipush (v := nI 60) rfl rfl ?_
    refine am_q_igtN rfl (by omega) (by omega) (fun c_14 => ?_) (fun c_14 => absurd c_14 (by omega))
    refine am_q_iconst (v := -1) rfl rfl ?_
    refine am_q_ireturn rfl rfl rfl ?_
    rw [hq]
    exact ⟨_, rfl, hinv.1⟩
  | succ m ih =>
    intro j μ1 hj hinv
    have h6 := hO.1.1
    have hP8 := hO.1.2.1
    have h8 := sI_8 hO hI
    have hpk := sI_p hI
    have hV1 := mVal_fr hinv.1 hV
    have htj := goW_t V W j
    obtain ⟨μ2, hc2, hf2, hW2⟩ := m_goesT d n ν hV1 hO hinv.2.1 (goW_I hI j) (by omega)
    rw [← goW_s] at hW2
    have hc3 := m_who (d + 4) n ν hV1 hO 798 (by decide) hinv.2.1 (goW_I hI j) 2 (by decide)
    rw [later_m hI h6] at hc3
    have hl64 : sLater V W j < 64 := sn_64 h6
    refine am_q_iload_n rfl rfl ?_
    refine am_q_bipush (v := nI 60) rfl rfl ?_
    refine am_q_igtN rfl (by omega) (by omega) (fun c_14 => absurd c_14 (by omega)) (fun c_14 => ?_)
    refine am_q_aload_n rfl rfl ?_
    refine am_q_sipush (v := nI 798) rfl rfl ?_
    refine am_q_iconst (v := nI 2) rfl rfl ?_
    refine am_q_call rfl rfl (hc3) rfl ?_
    refine am_q_zneN rfl (by omega) (fun c_25 => ?_) (fun c_25 => ?_)
    · refine am_q_aload_n rfl rfl ?_
      refine am_q_sipush (v := nI 798) rfl rfl ?_
      refine am_q_call rfl rfl (hc2) rfl ?_
      refine am_q_popi rfl ?_
      refine am_q_iinc [some _, some _] rfl (c := nI 1) rfl rfl (Nat.le_of_ble_eq_true rfl) (nI_add _ _) rfl ?_
      refine am_q_goto rfl ?_
      exact ih (j + 1) _ (by omega) ⟨fr_tr hinv.1 hf2, hW2, fun i hi => by
                by_cases z : i = j
                · rw [z]; exact decide_eq_false c_25
                · exact hinv.2.2 i (by omega)⟩
    · refine am_q_iload_n rfl rfl ?_
      refine am_q_ireturn rfl rfl rfl ?_
      have hq : qBare V W = nI j := by unfold qBare; rw [ff_yes (by omega) hinv.2.2 (decide_eq_true c_25), if_pos (by omega)]
      rw [hq]
      exact ⟨_, rfl, hinv.1⟩

/-- StoneSecretsModel.bare()I -/
theorem m_bare (d : Nat) (n : Nat) {V : sVal} {W : sWall} {μ : am_M2} (ν : am_N2) (hV : mVal μ V) (hO : vOk V) (hW : mWall μ 0 W) (hI : sI (vN V) (vP V) W.1 W.2.1) (ht : W.2.2 < 2 ^ 20) : ∃ (μ' : am_M2), am_run (d + 7) 254 [.ref 133] (am_hp n μ ν) = some (some (.int (qBare V W)), am_hp n μ' ν) ∧ fr μ μ' := by
  have h6 := hO.1.1
  have hP8 := hO.1.2.1
  have h8 := sI_8 hO hI
  have hpk := sI_p hI
  have hV0 := mVal_fr (fr_thr μ) hV
  have hW0 := mWall_fr (fr_thr μ) (by decide) hW
  have key : ∃ r, am_run (d + 7) 254 [.ref 133] (am_hp n μ ν) = some r ∧ ∃ (μ' : am_M2), r = (some (.int (qBare V W)), am_hp n μ' ν) ∧ fr μ μ' := am_run_wE (k := 254) (d := d + 6) rfl rfl (Nat.le_of_ble_eq_true rfl) [some (.ref 133), none] rfl (by
    refine am_q_aload_n rfl rfl ?_
    refine am_q_iconst (v := nI 0) rfl rfl ?_
    refine am_q_pi rfl rfl rfl (Or.inl rfl) ?_
    refine am_q_aload_n rfl rfl ?_
    obtain ⟨μ1, hc1, hf1, hW1⟩ := m_tries _ n ν hW0
    refine am_q_call rfl rfl (hc1) rfl ?_
    refine am_q_iconst (v := nI 0) rfl rfl ?_
    refine am_q_istore_n [some _, some _] rfl (Nat.le_of_ble_eq_true rfl) rfl ?_
    exact m_bareL d n ν hV hO hW hI ht 61 0 _ (by omega) ⟨fr_tr (fr_thr μ) hf1, hW1, fun i hi => by omega⟩)
  obtain ⟨r, h1, μ', h2, h3⟩ := key
  exact ⟨μ', by rw [h1, h2], h3⟩

theorem fiS_0 {V : sVal} {W : sWall} : ∀ n, (∀ s, s < n → fll V W.2.2 W.2.1 60 s = 0) → fiS V W n = none
  | 0, _ => rfl
  | n + 1, h => by rw [fiS_n (fun z => by have := z.1; have := h n (by omega); omega)]; exact fiS_0 n (fun s hs => h s (by omega))
theorem fiS_1 {V : sVal} {W : sWall} {s : Nat} (h0 : 0 < fll V W.2.2 W.2.1 60 s) (h1 : ∀ x, x < s → 0 < fll V W.2.2 W.2.1 60 x → fll V W.2.2 W.2.1 60 s < fll V W.2.2 W.2.1 60 x) : ∀ n, (∀ x, x < n → 0 < fll V W.2.2 W.2.1 60 x → fll V W.2.2 W.2.1 60 s ≤ fll V W.2.2 W.2.1 60 x) → (n ≤ s → ∀ b, fiS V W n = some b → fll V W.2.2 W.2.1 60 s < fll V W.2.2 W.2.1 60 b) ∧ (s < n → fiS V W n = some s)
  | 0, _ => ⟨fun _ b hb => (by cases hb), fun h => by omega⟩
  | n + 1, h => by
    obtain ⟨i1, i2⟩ := fiS_1 h0 h1 n (fun x hx => h x (by omega))
    by_cases hn : n < s
    · refine ⟨fun _ b hb => ?_, fun z => by omega⟩
      by_cases c : 0 < fll V W.2.2 W.2.1 60 n ∧ ∀ b, fiS V W n = some b → fll V W.2.2 W.2.1 60 n < fll V W.2.2 W.2.1 60 b
      · rw [fiS_y c.1 c.2] at hb; cases hb; exact h1 n hn c.1
      · rw [fiS_n c] at hb; exact i1 (by omega) b hb
    · refine ⟨fun z => by omega, fun _ => ?_⟩
      by_cases e : n = s
      · subst e; exact fiS_y h0 (i1 (Nat.le_refl _))
      · have i3 := i2 (by omega)
        rw [fiS_n (fun c => by have := c.2 s i3; have := h n (by omega) c.1; omega)]; exact i3
/-- whom a WEEK has fallen -/
theorem fell_iff {V : sVal} {W : sWall} {a s : Nat} (hs : s < vN V) : sFall V (goW V W a).2.1 (goW V W a).2.2 (vCold V (goW V W a).2.2) s = true ↔ (plW V W.2.2 W.2.1 a s).isSome = true ∧ plW V W.2.2 W.2.1 (a + 1) s = none := by
  have e : plW V W.2.2 W.2.1 (a + 1) s = if sFall V (goW V W a).2.1 (goW V W a).2.2 (vCold V (goW V W a).2.2) s = true then none else plW V W.2.2 W.2.1 a s := by
    rw [goW_pl, goW_t]
    show wkPl V (plW V W.2.2 W.2.1 a) (W.2.2 + a) (vCold V (W.2.2 + a)) s = _
    unfold wkPl
    rw [if_pos hs]
  constructor
  · intro h
    refine ⟨?_, by rw [e, if_pos h]⟩
    have := sFall_some h
    rw [goW_pl] at this; exact this
  · intro h
    rw [e] at h
    cases hq : sFall V (goW V W a).2.1 (goW V W a).2.2 (vCold V (goW V W a).2.2) s with
    | true => rfl
    | false => rw [hq, if_neg Bool.false_ne_true] at h; rw [h.2] at h; cases h.1
def fellB (V : sVal) (W : sWall) (a : Nat) : Nat := sBits (sFall V (goW V W a).2.1 (goW V W a).2.2 (vCold V (goW V W a).2.2)) (vN V)
theorem fell_tb {V : sVal} {W : sWall} {a s : Nat} (hs : s < vN V) : (fellB V W a).testBit s = true ↔ (plW V W.2.2 W.2.1 a s).isSome = true ∧ plW V W.2.2 W.2.1 (a + 1) s = none := by
  unfold fellB; rw [sBits_tb, ← fell_iff hs]; simp [hs]
theorem first_some {V : sVal} {W : sWall} {a s : Nat} (hs : s < vN V) (ha : a < 60) (hno : ∀ i, i < a → ∀ x, x < vN V → (fellB V W i).testBit x = false) (hl : ∀ x, x < s → (fellB V W a).testBit x = false) (h : (fellB V W a).testBit s = true) : fiS V W (vN V) = some s := by
  have h1 := (fell_tb hs).mp h
  have e1 := fll_at h1.1 h1.2 60 (by omega)
  have key : ∀ x, x < vN V → 0 < fll V W.2.2 W.2.1 60 x → a + 1 ≤ fll V W.2.2 W.2.1 60 x ∧ (fll V W.2.2 W.2.1 60 x = a + 1 → (fellB V W a).testBit x = true) := fun x hx hp => by
    obtain ⟨b, b1, b2, b3⟩ := fll_pos 60 hp
    have hb := (fell_tb (V := V) (W := W) (a := b) hx).mpr b3
    refine ⟨?_, fun q => ?_⟩
    · by_cases z : b < a
      · rw [hno b z x hx] at hb; cases hb
      · omega
    · rw [show a = b by omega]; exact hb
  refine (fiS_1 (V := V) (W := W) (s := s) (by omega) (fun x hx hp => ?_) (vN V) (fun x hx hp => by have := (key x hx hp).1; omega)).2 hs
  have k := key x (by omega) hp
  by_cases z : fll V W.2.2 W.2.1 60 x = a + 1
  · have := k.2 z; rw [hl x hx] at this; cases this
  · omega
theorem first_none {V : sVal} {W : sWall} (hno : ∀ i, i < 60 → ∀ x, x < vN V → (fellB V W i).testBit x = false) : fiS V W (vN V) = none :=
  fiS_0 _ (fun s hs => by
    by_cases z : 0 < fll V W.2.2 W.2.1 60 s
    · obtain ⟨b, b1, b2, b3⟩ := fll_pos 60 z
      have := (fell_tb (V := V) (W := W) (a := b) hs).mpr b3
      rw [hno b b1 s hs] at this; cases this
    · omega)
theorem m_fstI (d a : Nat) (n : Nat) {V : sVal} {W : sWall} {μ : am_M2} (ν : am_N2) (hV : mVal μ V) (hO : vOk V) (hW : mWall μ 0 W) (hI : sI (vN V) (vP V) W.1 W.2.1) (ht : W.2.2 < 2 ^ 20) (ha : a < 60) (hno : ∀ i, i < a → ∀ x, x < vN V → (fellB V W i).testBit x = false) (μ1 : am_M2) (hf1 : fr μ μ1) (K : (∀ x, x < vN V → (fellB V W a).testBit x = false) → am_w (d + 6) (Option.some FieldType.int) am_g255 52 [some (.ref 133), some (.int (nI (a + 1))), some (.int (nI (fellB V W a))), some (.int (nI (vN V)))] [] (am_hp n μ1 ν) (fun y => ∃ (μ' : am_M2), y = (some (.int (sn_place (fiS V W (vN V)))), am_hp n μ' ν) ∧ fr μ μ')) : ∀ (m j : Nat) , j + m = vN V → (∀ x, x < j → (fellB V W a).testBit x = false) → am_w (d + 6) (Option.some FieldType.int) am_g255 27 [some (.ref 133), some (.int (nI (a + 1))), some (.int (nI (fellB V W a))), some (.int (nI j))] [] (am_hp n μ1 ν) (fun y => ∃ (μ' : am_M2), y = (some (.int (sn_place (fiS V W (vN V)))), am_hp n μ' ν) ∧ fr μ μ') := by
  intro m
  induction m with
  | zero =>
    intro j  hj hinv
    have h6 := hO.1.1
    have hP8 := hO.1.2.1
    have h8 := sI_8 hO hI
    have hpk := sI_p hI
    have hV0 := mVal_fr hf1 hV
    refine am_q_iload_n rfl rfl ?_
    refine am_q_aload_n rfl rfl ?_
    refine am_q_call rfl rfl (m_souls _ _ _ hV0) rfl ?_
    refine am_q_igeN rfl (by omega) (by omega) (fun c_32 => ?_) (fun c_32 => absurd c_32 (by omega))
    have hj2 : j = vN V := by omega
    rw [hj2] at hinv ⊢
    exact K hinv
  | succ m ih =>
    intro j  hj hinv
    have h6 := hO.1.1
    have hP8 := hO.1.2.1
    have h8 := sI_8 hO hI
    have hpk := sI_p hI
    have hV0 := mVal_fr hf1 hV
    have h64 : fellB V W a < 64 := sn_64 h6
    refine am_q_iload_n rfl rfl ?_
    refine am_q_aload_n rfl rfl ?_
    refine am_q_call rfl rfl (m_souls _ _ _ hV0) rfl ?_
    refine am_q_igeN rfl (by omega) (by omega) (fun c_32 => absurd c_32 (by omega)) (fun c_32 => ?_)
    refine am_q_iload_n rfl rfl ?_
    refine am_q_iload_n rfl rfl ?_
    refine am_q_ishr rfl (sn_shr (by omega) (by omega)) ?_
    refine am_q_iconst (v := nI 1) rfl rfl ?_
    refine am_q_iand rfl (show nI (fellB V W a / 2 ^ j) &&& nI 1 = nI (fellB V W a / 2 ^ j % 2) from fa_mask _ 1) ?_
    refine am_q_iconst (v := nI 1) rfl rfl ?_
    refine am_q_ineN rfl (by omega) (by omega) (fun c_41 => ?_) (fun c_41 => ?_)
    · refine am_q_iinc [some _, some _, some _, some _] rfl (c := nI 1) rfl rfl (Nat.le_of_ble_eq_true rfl) (nI_add _ _) rfl ?_
      refine am_q_goto rfl ?_
      exact ih (j + 1) (by omega) (fun x hx => by
                by_cases z : x = j
                · rw [z]; exact (tb_0 _ _).mp c_41
                · exact hinv x (by omega))
    · refine am_q_iload_n rfl rfl ?_
      refine am_q_ireturn rfl rfl rfl ?_
      rw [first_some (by omega) ha hno hinv ((tb_1 _ _).mp c_41)]
      exact ⟨_, rfl, hf1⟩

theorem m_fstL (d : Nat) (n : Nat) {V : sVal} {W : sWall} {μ : am_M2} (ν : am_N2) (hV : mVal μ V) (hO : vOk V) (hW : mWall μ 0 W) (hI : sI (vN V) (vP V) W.1 W.2.1) (ht : W.2.2 < 2 ^ 20) : ∀ (m j : Nat) (μ1 : am_M2) (o2 : Option Value) (o3 : Option Value), j + m = 60 → fr μ μ1 ∧ mWall μ1 798 (goW V W j) ∧ (∀ i, i < j → ∀ x, x < vN V → (fellB V W i).testBit x = false) → am_w (d + 6) (Option.some FieldType.int) am_g255 11 [some (.ref 133), some (.int (nI (j + 1))), o2, o3] [] (am_hp n μ1 ν) (fun y => ∃ (μ' : am_M2), y = (some (.int (sn_place (fiS V W (vN V)))), am_hp n μ' ν) ∧ fr μ μ') := by
  intro m
  induction m with
  | zero =>
    intro j μ1 o2 o3 hj hinv
    have h6 := hO.1.1
    have hP8 := hO.1.2.1
    have h8 := sI_8 hO hI
    have hpk := sI_p hI
    refine am_q_iload_n rfl rfl ?_
    refine am_q_bipush (v := nI 60) rfl rfl ?_
    refine am_q_igtN rfl (by omega) (by omega) (fun c_14 => ?_) (fun c_14 => absurd c_14 (by omega))
    refine am_q_iconst (v := -1) rfl rfl ?_
    refine am_q_ireturn rfl rfl rfl ?_
    rw [first_none (fun i hi => hinv.2.2 i (by omega))]
    exact ⟨_, rfl, hinv.1⟩
  | succ m ih =>
    intro j μ1 o2 o3 hj hinv
    have h6 := hO.1.1
    have hP8 := hO.1.2.1
    have h8 := sI_8 hO hI
    have hpk := sI_p hI
    have hV1 := mVal_fr hinv.1 hV
    have htj := goW_t V W j
    obtain ⟨μ2, hc2, hf2, hW2⟩ := m_goesT d n ν hV1 hO hinv.2.1 (goW_I hI j) (by omega)
    rw [← goW_s] at hW2
    refine am_q_iload_n rfl rfl ?_
    refine am_q_bipush (v := nI 60) rfl rfl ?_
    refine am_q_igtN rfl (by omega) (by omega) (fun c_14 => absurd c_14 (by omega)) (fun c_14 => ?_)
    refine am_q_aload_n rfl rfl ?_
    refine am_q_sipush (v := nI 798) rfl rfl ?_
    refine am_q_call rfl rfl (hc2) rfl ?_
    refine am_q_istore_n [some _, some _, some _, _] rfl (Nat.le_of_ble_eq_true rfl) rfl ?_
    refine am_q_iconst (v := nI 0) rfl rfl ?_
    refine am_q_istore_n [some _, some _, some _, some _] rfl (Nat.le_of_ble_eq_true rfl) rfl ?_
    refine m_fstI d j n ν hV hO hW hI ht (by omega) hinv.2.2 μ2 (fr_tr hinv.1 hf2) (fun hn => ?_) (vN V) 0 (by omega) (fun x hx => by omega)
    refine am_q_iinc [some _, some _, some _, some _] rfl (c := nI 1) rfl rfl (Nat.le_of_ble_eq_true rfl) (nI_add _ _) rfl ?_
    refine am_q_goto rfl ?_
    exact ih (j + 1) _ _ _ (by omega) ⟨fr_tr hinv.1 hf2, hW2, fun i hi => by
      by_cases z : i = j
      · rw [z]; exact hn
      · exact hinv.2.2 i (by omega)⟩

/-- StoneSecretsModel.first()I -/
theorem m_first (d : Nat) (n : Nat) {V : sVal} {W : sWall} {μ : am_M2} (ν : am_N2) (hV : mVal μ V) (hO : vOk V) (hW : mWall μ 0 W) (hI : sI (vN V) (vP V) W.1 W.2.1) (ht : W.2.2 < 2 ^ 20) : ∃ (μ' : am_M2), am_run (d + 7) 255 [.ref 133] (am_hp n μ ν) = some (some (.int (sn_place (fiS V W (vN V)))), am_hp n μ' ν) ∧ fr μ μ' := by
  have h6 := hO.1.1
  have hP8 := hO.1.2.1
  have h8 := sI_8 hO hI
  have hpk := sI_p hI
  have hV0 := mVal_fr (fr_thr μ) hV
  have hW0 := mWall_fr (fr_thr μ) (by decide) hW
  have key : ∃ r, am_run (d + 7) 255 [.ref 133] (am_hp n μ ν) = some r ∧ ∃ (μ' : am_M2), r = (some (.int (sn_place (fiS V W (vN V)))), am_hp n μ' ν) ∧ fr μ μ' := am_run_wE (k := 255) (d := d + 6) rfl rfl (Nat.le_of_ble_eq_true rfl) [some (.ref 133), none, none, none] rfl (by
    refine am_q_aload_n rfl rfl ?_
    refine am_q_iconst (v := nI 0) rfl rfl ?_
    refine am_q_pi rfl rfl rfl (Or.inl rfl) ?_
    refine am_q_aload_n rfl rfl ?_
    obtain ⟨μ1, hc1, hf1, hW1⟩ := m_tries _ n ν hW0
    refine am_q_call rfl rfl (hc1) rfl ?_
    refine am_q_iconst (v := nI 1) rfl rfl ?_
    refine am_q_istore_n [some _, some _, none, none] rfl (Nat.le_of_ble_eq_true rfl) rfl ?_
    exact m_fstL d n ν hV hO hW hI ht 60 0 _ none none (by omega) ⟨fr_tr (fr_thr μ) hf1, hW1, fun i hi => by omega⟩)
  obtain ⟨r, h1, μ', h2, h3⟩ := key
  exact ⟨μ', by rw [h1, h2], h3⟩
