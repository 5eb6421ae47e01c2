def mcp (g : Nat → Int32) (f t m : Nat) : Nat → Int32 := fun k => if t ≤ k ∧ k < t + m then g (f + (k - t)) else g k
theorem mcp_0 (g : Nat → Int32) (f t : Nat) : mcp g f t 0 = g := by funext k; unfold mcp; rw [if_neg (by omega)]
theorem mcp_s (g : Nat → Int32) (f t j : Nat) : upd (mcp g f t j) (t + j) (g (f + j)) = mcp g f t (j + 1) := by
  funext k
  by_cases e : k = t + j
  · subst e; rw [pk_us]; unfold mcp; rw [if_pos (by omega), show f + (t + j - t) = f + j by omega]
  · rw [pk_un e]; unfold mcp
    by_cases z : t ≤ k ∧ k < t + j
    · rw [if_pos z, if_pos (by omega)]
    · rw [if_neg z, if_neg (by omega)]
theorem mcp_out {g : Nat → Int32} {f t m k : Nat} (h : k < t ∨ t + m ≤ k) : mcp g f t m k = g k := by unfold mcp; rw [if_neg (by omega)]
theorem mcp_in {g : Nat → Int32} {f t m k : Nat} (h : k < m) : mcp g f t m (t + k) = g (f + k) := by unfold mcp; rw [if_pos (by omega), show f + (t + k - t) = f + k by omega]
theorem m_copL (d n f t m0 : Nat) (μ : am_M2) (ν : am_N2) (hf : f + m0 ≤ 836) (ht : t + m0 ≤ 836) (hd : f + m0 ≤ t ∨ t + m0 ≤ f) : ∀ (m j : Nat) , j + m = m0 → am_w (d + 0) (Option.none : Option FieldType) am_g228 3 [some (.ref 133), some (.int (nI f)), some (.int (nI t)), some (.int (nI m0)), some (.int (nI j))] [] (am_hp n (am_rw μ 145 (mcp (μ 145) f t j)) ν) (fun y => y = (none, am_hp n (am_rw μ 145 (mcp (μ 145) f t m0)) ν)) := by
  intro m
  induction m with
  | zero =>
    intro j  hj
    refine am_q_iload rfl rfl ?_
    refine am_q_iload_n rfl rfl ?_
    refine am_q_igeN rfl (by omega) (by omega) (fun c_6 => ?_) (fun c_6 => absurd c_6 (by omega))
    refine am_q_return rfl rfl ?_
    rw [show j = m0 by omega]
  | succ m ih =>
    intro j  hj
    refine am_q_iload rfl rfl ?_
    refine am_q_iload_n rfl rfl ?_
    refine am_q_igeN rfl (by omega) (by omega) (fun c_6 => absurd c_6 (by omega)) (fun c_6 => ?_)
    refine am_q_aload_n rfl rfl ?_
    refine am_q_gr rfl rfl rfl ?_
    refine am_q_iload_n rfl rfl ?_
    refine am_q_iload rfl rfl ?_
    refine am_q_iadd rfl (nI_add _ _) ?_
    refine am_q_aload_n rfl rfl ?_
    refine am_q_gr rfl rfl rfl ?_
    refine am_q_iload_n rfl rfl ?_
    refine am_q_iload rfl rfl ?_
    refine am_q_iadd rfl (nI_add _ _) ?_
    refine am_q_iald rfl rfl (am_ix_nI (show f + j < 836 by omega) (by decide)) (show am_rw μ 145 (mcp (μ 145) f t j) 145 (f + j) = μ 145 (f + j) from mcp_out (by omega)) ?_
    refine am_q_iast rfl rfl (am_ix_nI (show t + j < 836 by omega) (by decide)) rfl ?_
    rw [am_rw_up, mcp_s]
    refine am_q_iinc [some _, some _, some _, some _, some _] rfl (c := nI 1) rfl rfl (Nat.le_of_ble_eq_true rfl) (nI_add _ _) rfl ?_
    refine am_q_goto rfl ?_
    exact ih (j + 1) (by omega)

/-- StoneSecretsModel.copies(III)V -/
theorem m_copies (d : Nat) (n f t m0 : Nat) (μ : am_M2) (ν : am_N2) (hf : f + m0 ≤ 836) (ht : t + m0 ≤ 836) (hd : f + m0 ≤ t ∨ t + m0 ≤ f) : am_run (d + 1) 228 [.ref 133, .int (nI f), .int (nI t), .int (nI m0)] (am_hp n μ ν) = some (none, am_hp n (am_rw μ 145 (mcp (μ 145) f t m0)) ν) := by
  refine am_r228 (d := d + 0) (Nat.le_of_ble_eq_true rfl) [some (.ref 133), some (.int (nI f)), some (.int (nI t)), some (.int (nI m0)), none] rfl ?_
  refine am_q_iconst (v := nI 0) rfl rfl ?_
  refine am_q_istore [some _, some _, some _, some _, some _] rfl (Nat.le_of_ble_eq_true rfl) rfl ?_
  have e := m_copL d n f t m0 μ ν hf ht hd m0 0 (by omega)
  rw [mcp_0, am_rw_self] at e
  exact e

theorem mWall_mcp {μ : am_M2} {f t m : Nat} {W : sWall} (hm : 13 ≤ m) (hW : mWall μ f W) : mWall (am_rw μ 145 (mcp (μ 145) f t m)) t W := by
  have h : ∀ k, k < 13 → am_rw μ 145 (mcp (μ 145) f t m) 145 (t + k) = μ 145 (f + k) := fun k hk => (show am_rw μ 145 (mcp (μ 145) f t m) 145 (t + k) = mcp (μ 145) f t m (t + k) from rfl).trans (mcp_in (by omega))
  refine ⟨(h 0 (by omega)).trans hW.1, fun s hs => ⟨?_, ?_⟩⟩
  · rw [show t + 1 + s = t + (1 + s) by omega, h _ (by omega), show f + (1 + s) = f + 1 + s by omega]; exact (hW.2 s hs).1
  · rw [show t + 7 + s = t + (7 + s) by omega, h _ (by omega), show f + (7 + s) = f + 7 + s by omega]; exact (hW.2 s hs).2
theorem mcp_row {μ : am_M2} {f t m i k : Nat} (h : i = 145 → k < t ∨ t + m ≤ k) : am_rw μ 145 (mcp (μ 145) f t m) i k = μ i k := by
  unfold am_rw
  by_cases e : i = 145
  · rw [if_pos e, mcp_out (h e), e]
  · rw [if_neg e]
/-- StoneSecretsModel.triesNow()V -/
theorem m_tries (d : Nat) (n : Nat) {W : sWall} {μ : am_M2} (ν : am_N2) (hW : mWall μ 0 W) : ∃ (μ' : am_M2), am_run (d + 2) 251 [.ref 133] (am_hp n μ ν) = some (none, am_hp n μ' ν) ∧ fr μ μ' ∧ mWall μ' 798 W := by
  have key : ∃ r, am_run (d + 2) 251 [.ref 133] (am_hp n μ ν) = some r ∧ ∃ (μ' : am_M2), r = (none, am_hp n μ' ν) ∧ fr μ μ' ∧ mWall μ' 798 W := am_run_wE (k := 251) (d := d + 1) rfl rfl (Nat.le_of_ble_eq_true rfl) [some (.ref 133)] rfl (by
    refine am_q_aload_n rfl rfl ?_
    refine am_q_iconst (v := nI 0) rfl rfl ?_
    refine am_q_sipush (v := nI 798) rfl rfl ?_
    refine am_q_bipush (v := nI 13) rfl rfl ?_
    refine am_q_call rfl rfl (m_copies _ n 0 798 13 μ ν (by decide) (by decide) (by decide)) rfl ?_
    refine am_q_return rfl rfl ?_
    exact ⟨_, rfl, fun i k q => mcp_row (fun e => by omega), mWall_mcp (by decide) hW⟩)
  obtain ⟨r, h1, μ', h2, h3⟩ := key
  exact ⟨μ', by rw [h1, h2], h3⟩

def goW (V : sVal) (W : sWall) : Nat → sWall
  | 0 => W
  | n + 1 => wk V (goW V W n) (vCold V (goW V W n).2.2)
theorem goW_s (V : sVal) (W : sWall) (n : Nat) : goW V W (n + 1) = wk V (goW V W n) (vCold V (goW V W n).2.2) := rfl
theorem goW_t (V : sVal) (W : sWall) : ∀ n, (goW V W n).2.2 = W.2.2 + n
  | 0 => rfl
  | n + 1 => by rw [goW_s]; show (goW V W n).2.2 + 1 = _; rw [goW_t V W n]; omega
theorem goW_pl (V : sVal) (W : sWall) : ∀ n, (goW V W n).2.1 = plW V W.2.2 W.2.1 n
  | 0 => rfl
  | n + 1 => by
    rw [goW_s]
    show wkPl V (goW V W n).2.1 (goW V W n).2.2 (vCold V (goW V W n).2.2) = wkPl V (plW V W.2.2 W.2.1 n) (W.2.2 + n) (vCold V (W.2.2 + n))
    rw [goW_t, goW_pl V W n]
theorem goW_I {V : sVal} {W : sWall} (hI : sI (vN V) (vP V) W.1 W.2.1) : ∀ n, sI (vN V) (vP V) (goW V W n).1 (goW V W n).2.1
  | 0 => hI
  | n + 1 => wkI (goW_I hI n)
theorem m_goesT (d n : Nat) {V : sVal} {T : sWall} {μ : am_M2} (ν : am_N2) (hV : mVal μ V) (hO : vOk V) (hT : mWall μ 798 T) (hI : sI (vN V) (vP V) T.1 T.2.1) (ht : T.2.2 < 2 ^ 30) : ∃ μ', am_run (d + 6) 238 [.ref 133, .int (nI 798)] (am_hp n μ ν) = some (some (.int (nI (sBits (sFall V T.2.1 T.2.2 (vCold V T.2.2)) (vN V)))), am_hp n μ' ν) ∧ fr μ μ' ∧ mWall μ' 798 (wk V T (vCold V T.2.2)) := by
  obtain ⟨μ', h1, h2, h3⟩ := m_goes d n ν hV hO 798 (by decide) hT hI ht
  exact ⟨μ', h1, fr_B h3, h2⟩
def becN (V : sVal) (W : sWall) (s x : Nat) : Nat := fa_first (fun i => decide ((goW V W (i + 1)).1 s = x)) 60
def becI (V : sVal) (W : sWall) (s x : Nat) : Int32 := if becN V W s x < 60 then nI (becN V W s x + 1) else -1
theorem m_becL (d s x : Nat) (n : Nat) {V : sVal} {W : sWall} {μ : am_M2} (ν : am_N2) (hV : mVal μ V) (hO : vOk V) (hW : mWall μ 0 W) (hI : sI (vN V) (vP V) W.1 W.2.1) (ht : W.2.2 < 2 ^ 20) (hs : s < vN V) (hx : x ≤ 4) : ∀ (m j : Nat) (μ1 : am_M2), j + m = 60 → fr μ μ1 ∧ mWall μ1 798 (goW V W j) ∧ (∀ i, i < j → decide ((goW V W (i + 1)).1 s = x) = false) → am_w (d + 6) (Option.some FieldType.int) am_g250 6 [some (.ref 133), some (.int (nI s)), some (.int (nI x)), some (.int (nI (j + 1)))] [] (am_hp n μ1 ν) (fun y => ∃ (μ' : am_M2), y = (some (.int (becI V W s x)), am_hp n μ' ν) ∧ fr μ μ') := by
  intro m
  induction m with
  | zero =>
    intro j μ1 hj hinv
    have h6 := hO.1.1
    have hP8 := hO.1.2.1
    have h8 := sI_8 hO hI
    have hpk := sI_p hI
    have hq : becI V W s x = -1 := by unfold becI becN; rw [if_neg (ff_no (fun i hi => hinv.2.2 i (by omega)))]
    refine am_q_iload_n rfl rfl ?_
    refine am_q_bipush (v := nI 60) rfl rfl ?_
    refine am_q_igtN rfl (by omega) (by omega) (fun c_9 => ?_) (fun c_9 => absurd c_9 (by omega))
    refine am_q_iconst (v := -1) rfl rfl ?_
    refine am_q_ireturn rfl rfl rfl ?_
    rw [hq]
    exact ⟨_, rfl, hinv.1⟩
  | succ m ih =>
    intro j μ1 hj hinv
    have h6 := hO.1.1
    have hP8 := hO.1.2.1
    have h8 := sI_8 hO hI
    have hpk := sI_p hI
    have hV1 := mVal_fr hinv.1 hV
    have htj := goW_t V W j
    obtain ⟨μ2, hc2, hf2, hW2⟩ := m_goesT d n ν hV1 hO hinv.2.1 (goW_I hI j) (by omega)
    rw [← goW_s] at hW2
    have k4 := (goW_I hI (j + 1) s (by omega)).1
    refine am_q_iload_n rfl rfl ?_
    refine am_q_bipush (v := nI 60) rfl rfl ?_
    refine am_q_igtN rfl (by omega) (by omega) (fun c_9 => absurd c_9 (by omega)) (fun c_9 => ?_)
    refine am_q_aload_n rfl rfl ?_
    refine am_q_sipush (v := nI 798) rfl rfl ?_
    refine am_q_call rfl rfl (hc2) rfl ?_
    refine am_q_popi rfl ?_
    refine am_q_aload_n rfl rfl ?_
    refine am_q_sipush (v := nI 798) rfl rfl ?_
    refine am_q_iload_n rfl rfl ?_
    refine am_q_call rfl rfl (m_isNowW _ n ν 798 (by decide) hW2 s (by omega)) rfl ?_
    refine am_q_iload_n rfl rfl ?_
    refine am_q_ineN rfl (by omega) (by omega) (fun c_29 => ?_) (fun c_29 => ?_)
    · refine am_q_iinc [some _, some _, some _, some _] rfl (c := nI 1) rfl rfl (Nat.le_of_ble_eq_true rfl) (nI_add _ _) rfl ?_
      refine am_q_goto rfl ?_
      exact ih (j + 1) _ (by omega) ⟨fr_tr hinv.1 hf2, hW2, fun i hi => by
                by_cases z : i = j
                · rw [z]; exact decide_eq_false c_29
                · exact hinv.2.2 i (by omega)⟩
    · refine am_q_iload_n rfl rfl ?_
      refine am_q_ireturn rfl rfl rfl ?_
      have hq : becI V W s x = nI (j + 1) := by unfold becI becN; rw [ff_yes (by omega) hinv.2.2 (decide_eq_true c_29), if_pos (by omega)]
      rw [hq]
      exact ⟨_, rfl, fr_tr hinv.1 hf2⟩

/-- StoneSecretsModel.becomes(II)I -/
theorem m_becomes (d : Nat) (s x : Nat) (n : Nat) {V : sVal} {W : sWall} {μ : am_M2} (ν : am_N2) (hV : mVal μ V) (hO : vOk V) (hW : mWall μ 0 W) (hI : sI (vN V) (vP V) W.1 W.2.1) (ht : W.2.2 < 2 ^ 20) (hs : s < vN V) (hx : x ≤ 4) : ∃ (μ' : am_M2), am_run (d + 7) 250 [.ref 133, .int (nI s), .int (nI x)] (am_hp n μ ν) = some (some (.int (becI V W s x)), am_hp n μ' ν) ∧ fr μ μ' := by
  have key : ∃ r, am_run (d + 7) 250 [.ref 133, .int (nI s), .int (nI x)] (am_hp n μ ν) = some r ∧ ∃ (μ' : am_M2), r = (some (.int (becI V W s x)), am_hp n μ' ν) ∧ fr μ μ' := am_run_wE (k := 250) (d := d + 6) rfl rfl (Nat.le_of_ble_eq_true rfl) [some (.ref 133), some (.int (nI s)), some (.int (nI x)), none] rfl (by
    refine am_q_aload_n rfl rfl ?_
    obtain ⟨μ1, hc1, hf1, hW1⟩ := m_tries _ n ν hW
    refine am_q_call rfl rfl (hc1) rfl ?_
    refine am_q_iconst (v := nI 1) rfl rfl ?_
    refine am_q_istore_n [some _, some _, some _, some _] rfl (Nat.le_of_ble_eq_true rfl) rfl ?_
    exact m_becL d s x n ν hV hO hW hI ht hs hx 60 0 _ (by omega) ⟨hf1, hW1, fun i hi => by omega⟩)
  obtain ⟨r, h1, μ', h2, h3⟩ := key
  exact ⟨μ', by rw [h1, h2], h3⟩

theorem fll_s (V : sVal) (t : Nat) (pl : Nat → Option Nat) (a s : Nat) : fll V t pl (a + 1) s = if (plW V t pl a s).isSome = true ∧ plW V t pl (a + 1) s = none then a + 1 else fll V t pl a s := rfl
theorem fll_none {V : sVal} {t s : Nat} {pl : Nat → Option Nat} : ∀ a, (∀ i, i ≤ a → (plW V t pl i s).isSome = true) → fll V t pl a s = 0
  | 0, _ => rfl
  | a + 1, h => by
    rw [fll_s, if_neg (fun z => by have := h (a + 1) (Nat.le_refl _); rw [z.2] at this; cases this)]
    exact fll_none a (fun i hi => h i (by omega))
theorem fll_none0 {V : sVal} {t s : Nat} {pl : Nat → Option Nat} (h : pl s = none) : ∀ a, fll V t pl a s = 0
  | 0 => rfl
  | a + 1 => by
    have hn : plW V t pl a s = none := by have := plW_dn (V := V) (t := t) (a := 0) h a; rw [Nat.zero_add] at this; exact this
    rw [fll_s, if_neg (fun z => by rw [hn] at z; cases z.1)]
    exact fll_none0 h a
theorem fll_at {V : sVal} {t s k : Nat} {pl : Nat → Option Nat} (h1 : (plW V t pl k s).isSome = true) (h2 : plW V t pl (k + 1) s = none) : ∀ a, k + 1 ≤ a → fll V t pl a s = k + 1
  | 0, h => by omega
  | a + 1, h => by
    rw [fll_s]
    by_cases z : a = k
    · rw [z, if_pos ⟨h1, h2⟩]
    · rw [if_neg (fun q => by
        have := plW_dn h2 (a - (k + 1))
        rw [show k + 1 + (a - (k + 1)) = a by omega] at this
        rw [this] at q; cases q.1)]
      exact fll_at h1 h2 a (by omega)
theorem fll_pos {V : sVal} {t s : Nat} {pl : Nat → Option Nat} : ∀ a, 0 < fll V t pl a s → ∃ b, b < a ∧ fll V t pl a s = b + 1 ∧ (plW V t pl b s).isSome = true ∧ plW V t pl (b + 1) s = none
  | 0, h => by simp [fll] at h
  | a + 1, h => by
    rw [fll_s] at h ⊢
    by_cases z : (plW V t pl a s).isSome = true ∧ plW V t pl (a + 1) s = none
    · rw [if_pos z]; exact ⟨a, by omega, rfl, z⟩
    · rw [if_neg z] at h ⊢
      obtain ⟨b, h1, h2⟩ := fll_pos a h
      exact ⟨b, by omega, h2⟩
theorem goW_23 {V : sVal} {W : sWall} (hI : sI (vN V) (vP V) W.1 W.2.1) {s : Nat} (hs : s < vN V) (h6 : vN V ≤ 6) (h2 : W.1 s = 2) : ∀ n, (goW V W n).1 s = 2 ∨ (goW V W n).1 s = 3
  | 0 => Or.inl h2
  | n + 1 => by
    have ih := goW_23 hI hs h6 h2 n
    rw [goW_s]
    show wkSt V (goW V W n).1 (goW V W n).2.1 (goW V W n).2.2 (vCold V (goW V W n).2.2) s = 2 ∨ wkSt V (goW V W n).1 (goW V W n).2.1 (goW V W n).2.2 (vCold V (goW V W n).2.2) s = 3
    unfold wkSt
    rw [if_pos hs]
    split
    · exact Or.inr rfl
    · rw [if_neg (by omega)]; exact ih
theorem goW_3 {V : sVal} {W : sWall} (hI : sI (vN V) (vP V) W.1 W.2.1) {s : Nat} (hs : s < vN V) (h6 : vN V ≤ 6) (h2 : W.1 s = 2) (n : Nat) : (goW V W n).1 s = 3 ↔ plW V W.2.2 W.2.1 n s = none := by
  have h := (goW_I hI n s (by omega)).2.1
  rw [goW_pl] at h
  have h23 := goW_23 hI hs h6 h2 n
  constructor
  · intro e
    cases hq : plW V W.2.2 W.2.1 n s with
    | none => rfl
    | some p => have := h.mp (by rw [hq]; rfl); omega
  · intro e
    rcases h23 with z | z
    · have := h.mpr z; rw [e] at this; cases this
    · exact z
theorem falls_m {V : sVal} {W : sWall} (hI : sI (vN V) (vP V) W.1 W.2.1) {s : Nat} (hs : s < vN V) (h6 : vN V ≤ 6) (h2 : W.1 s = 2) : becI V W s 3 = (if 0 < fll V W.2.2 W.2.1 60 s then nI (fll V W.2.2 W.2.1 60 s) else -1) := by
  have h0 : (plW V W.2.2 W.2.1 0 s).isSome = true := (hI s (by omega)).2.1.mpr h2
  have hno : ∀ i, i < becN V W s 3 → (plW V W.2.2 W.2.1 (i + 1) s).isSome = true := fun i hi => by
    have := fa_first_no _ _ _ hi
    cases hq : plW V W.2.2 W.2.1 (i + 1) s with
    | none => rw [decide_eq_true ((goW_3 hI hs h6 h2 (i + 1)).mpr hq)] at this; cases this
    | some p => rfl
  have hall : ∀ i, i ≤ becN V W s 3 → (plW V W.2.2 W.2.1 i s).isSome = true := fun i hi => by
    cases i with
    | zero => exact h0
    | succ i => exact hno i (by omega)
  unfold becI
  by_cases z : becN V W s 3 < 60
  · have hy := of_decide_eq_true (fa_first_yes _ _ z)
    have hn := (goW_3 hI hs h6 h2 _).mp hy
    have e := fll_at (hall _ (Nat.le_refl _)) hn 60 (by omega)
    have e : fll V W.2.2 W.2.1 60 s = becN V W s 3 + 1 := e
    rw [if_pos z, e, if_pos (by omega)]
  · have hb : becN V W s 3 = 60 := by have := fa_first_le (fun i => decide ((goW V W (i + 1)).1 s = 3)) 60; unfold becN at z ⊢; omega
    rw [if_neg z, fll_none 60 (fun i hi => hall i (by omega)), if_neg (by omega)]
theorem goW_0 {V : sVal} {W : sWall} (hI : sI (vN V) (vP V) W.1 W.2.1) {s : Nat} (hs : s < vN V) (h6 : vN V ≤ 6) (h0 : W.1 s = 0) : ∀ n, (goW V W n).1 s = if vLeak V s = true ∧ 0 < n ∧ vD V s + 1 ≤ W.2.2 + n then 4 else 0
  | 0 => by rw [if_neg (by omega)]; exact h0
  | n + 1 => by
    have ih := goW_0 hI hs h6 h0 n
    have hpn : (goW V W n).2.1 s = none := by
      have := (goW_I hI n s (by omega)).2.1
      cases hq : (goW V W n).2.1 s with
      | none => rfl
      | some p => have := this.mp (by rw [hq]; rfl); rw [ih] at this; split at this <;> omega
    rw [goW_s]
    show wkSt V (goW V W n).1 (goW V W n).2.1 (goW V W n).2.2 (vCold V (goW V W n).2.2) s = _
    unfold wkSt
    rw [if_pos hs, if_neg (by unfold sFall; rw [hpn]; exact Bool.false_ne_true), ih, goW_t]
    by_cases c1 : vLeak V s = true ∧ 0 < n ∧ vD V s + 1 ≤ W.2.2 + n
    · rw [if_pos c1, if_neg (by omega), if_pos ⟨c1.1, by omega, by omega⟩]
    · rw [if_neg c1]
      by_cases c2 : vLeak V s = true ∧ vD V s ≤ W.2.2 + n
      · rw [if_pos ⟨rfl, c2⟩, if_pos ⟨c2.1, by omega, by omega⟩]
      · rw [if_neg (fun z => c2 z.2), if_neg (fun z => c2 ⟨z.1, by omega⟩)]
theorem blurts_m {V : sVal} {W : sWall} (hI : sI (vN V) (vP V) W.1 W.2.1) {s : Nat} (hs : s < vN V) (h6 : vN V ≤ 6) (h0 : W.1 s = 0) : becI V W s 4 = (if vLeak V s = true then (if vD V s - W.2.2 + 1 ≤ 60 then nI (vD V s - W.2.2 + 1) else -1) else -1) := by
  have hb : ∀ i, decide ((goW V W (i + 1)).1 s = 4) = decide (vLeak V s = true ∧ vD V s ≤ W.2.2 + i) := fun i => by
    rw [goW_0 hI hs h6 h0, decide_eq_decide]
    by_cases c : vLeak V s = true ∧ vD V s ≤ W.2.2 + i
    · rw [if_pos ⟨c.1, by omega, by omega⟩]; exact ⟨fun _ => c, fun _ => rfl⟩
    · rw [if_neg (fun z => c ⟨z.1, by omega⟩)]; exact ⟨fun z => (by cases z), fun z => absurd z c⟩
  unfold becI becN
  rw [funext hb]
  by_cases hl : vLeak V s = true
  · rw [if_pos hl]
    by_cases h60 : vD V s - W.2.2 + 1 ≤ 60
    · rw [ff_yes (k := vD V s - W.2.2) (by omega) (fun i hi => decide_eq_false (fun z => by omega)) (decide_eq_true ⟨hl, by omega⟩), if_pos (by omega), if_pos h60]
    · rw [if_neg (ff_no (fun i hi => decide_eq_false (fun z => by omega))), if_neg h60]
  · rw [if_neg hl, if_neg (ff_no (fun i hi => decide_eq_false (fun z => hl z.1)))]
/-- StoneSecretsModel.falls(I)I -/
theorem m_falls (d : Nat) (s : Int32) (n : Nat) {V : sVal} {W : sWall} {μ : am_M2} (ν : am_N2) (hV : mVal μ V) (hO : vOk V) (hW : mWall μ 0 W) (hI : sI (vN V) (vP V) W.1 W.2.1) (ht : W.2.2 < 2 ^ 20) : ∃ (μ' : am_M2), am_run (d + 8) 249 [.ref 133, .int s] (am_hp n μ ν) = some (some (.int (qFalls V W s)), am_hp n μ' ν) ∧ fr μ μ' := by
  have h6 := hO.1.1
  have hP8 := hO.1.2.1
  have h8 := sI_8 hO hI
  have hpk := sI_p hI
  have hV0 := mVal_fr (fr_thr μ) hV
  have hW0 := mWall_fr (fr_thr μ) (by decide) hW
  have key : ∃ r, am_run (d + 8) 249 [.ref 133, .int s] (am_hp n μ ν) = some r ∧ ∃ (μ' : am_M2), r = (some (.int (qFalls V W s)), am_hp n μ' ν) ∧ fr μ μ' := am_run_wE (k := 249) (d := d + 7) rfl rfl (Nat.le_of_ble_eq_true rfl) [some (.ref 133), some (.int s)] rfl (by
    refine am_q_aload_n rfl rfl ?_
    refine am_q_iconst (v := nI 0) rfl rfl ?_
    refine am_q_pi rfl rfl rfl (Or.inl rfl) ?_
    refine am_q_aload_n rfl rfl ?_
    refine am_q_iload_n rfl rfl ?_
    refine am_q_call rfl rfl (m_isSoul _ _ _ _ hV0 hO) rfl ?_
    refine am_q_if_eqB rfl (fun c_10 => ?_) (fun c_10 => ?_)
    · refine am_q_iconst (v := -1) rfl rfl ?_
      refine am_q_ireturn rfl rfl rfl ?_
      rw [qFalls, if_neg (by unfold sIs; rw [isN c_10]; exact Bool.false_ne_true)]
      exact ⟨_, rfl, fr_thr μ⟩
    · obtain ⟨k, hk, rfl, hix⟩ := isI c_10 (by omega)
      have k4 := (hI k (by omega)).1
      refine am_q_aload_n rfl rfl ?_
      refine am_q_iconst (v := nI 0) rfl rfl ?_
      refine am_q_iload_n rfl rfl ?_
      refine am_q_call rfl rfl (m_isNowW _ n ν 0 (by decide) hW0 _ (by omega)) rfl ?_
      refine am_q_iconst (v := nI 2) rfl rfl ?_
      refine am_q_ineN rfl (by omega) (by omega) (fun c_20 => ?_) (fun c_20 => ?_)
      · refine am_q_iconst (v := -1) rfl rfl ?_
        refine am_q_ireturn rfl rfl rfl ?_
        rw [qFalls, if_neg (by rw [sIs_nI hk (by omega), decide_eq_false c_20]; exact Bool.false_ne_true)]
        exact ⟨_, rfl, fr_thr μ⟩
      · refine am_q_aload_n rfl rfl ?_
        refine am_q_iload_n rfl rfl ?_
        refine am_q_iconst (v := nI 3) rfl rfl ?_
        obtain ⟨μ2, hc2, hf2⟩ := m_becomes d k 3 n ν hV0 hO hW0 hI ht hk (by decide)
        refine am_q_call rfl rfl (hc2) rfl ?_
        refine am_q_goto rfl ?_
        refine am_q_ireturn rfl rfl rfl ?_
        rw [qFalls, if_pos (by rw [sIs_nI hk (by omega), decide_eq_true c_20]), ik_nI (by omega), ← falls_m hI hk h6 c_20]
        exact ⟨_, rfl, fr_tr (fr_thr μ) hf2⟩)
  obtain ⟨r, h1, μ', h2, h3⟩ := key
  exact ⟨μ', by rw [h1, h2], h3⟩

/-- StoneSecretsModel.blurts(I)I -/
theorem m_blurts (d : Nat) (s : Int32) (n : Nat) {V : sVal} {W : sWall} {μ : am_M2} (ν : am_N2) (hV : mVal μ V) (hO : vOk V) (hW : mWall μ 0 W) (hI : sI (vN V) (vP V) W.1 W.2.1) (ht : W.2.2 < 2 ^ 20) : ∃ (μ' : am_M2), am_run (d + 8) 252 [.ref 133, .int s] (am_hp n μ ν) = some (some (.int (qBlurts V W s)), am_hp n μ' ν) ∧ fr μ μ' := by
  have h6 := hO.1.1
  have hP8 := hO.1.2.1
  have h8 := sI_8 hO hI
  have hpk := sI_p hI
  have hV0 := mVal_fr (fr_thr μ) hV
  have hW0 := mWall_fr (fr_thr μ) (by decide) hW
  have key : ∃ r, am_run (d + 8) 252 [.ref 133, .int s] (am_hp n μ ν) = some r ∧ ∃ (μ' : am_M2), r = (some (.int (qBlurts V W s)), am_hp n μ' ν) ∧ fr μ μ' := am_run_wE (k := 252) (d := d + 7) rfl rfl (Nat.le_of_ble_eq_true rfl) [some (.ref 133), some (.int s)] rfl (by
    refine am_q_aload_n rfl rfl ?_
    refine am_q_iconst (v := nI 0) rfl rfl ?_
    refine am_q_pi rfl rfl rfl (Or.inl rfl) ?_
    refine am_q_aload_n rfl rfl ?_
    refine am_q_iload_n rfl rfl ?_
    refine am_q_call rfl rfl (m_isSoul _ _ _ _ hV0 hO) rfl ?_
    refine am_q_if_eqB rfl (fun c_10 => ?_) (fun c_10 => ?_)
    · refine am_q_iconst (v := -1) rfl rfl ?_
      refine am_q_ireturn rfl rfl rfl ?_
      rw [qBlurts, if_neg (fun z => by have := z.1; unfold sIs at this; rw [isN c_10] at this; cases this)]
      exact ⟨_, rfl, fr_thr μ⟩
    · obtain ⟨k, hk, rfl, hix⟩ := isI c_10 (by omega)
      have k4 := (hI k (by omega)).1
      refine am_q_aload_n rfl rfl ?_
      refine am_q_iconst (v := nI 0) rfl rfl ?_
      refine am_q_iload_n rfl rfl ?_
      refine am_q_call rfl rfl (m_isNowW _ n ν 0 (by decide) hW0 _ (by omega)) rfl ?_
      refine am_q_zneN rfl (by omega) (fun c_19 => ?_) (fun c_19 => ?_)
      · refine am_q_iconst (v := -1) rfl rfl ?_
        refine am_q_ireturn rfl rfl rfl ?_
        rw [qBlurts, if_neg (fun z => by have := z.1; rw [sIs_nI hk (by omega), decide_eq_false c_19] at this; cases this)]
        exact ⟨_, rfl, fr_thr μ⟩
      · refine am_q_aload_n rfl rfl ?_
        refine am_q_iload_n rfl rfl ?_
        refine am_q_iconst (v := nI 4) rfl rfl ?_
        obtain ⟨μ2, hc2, hf2⟩ := m_becomes d k 4 n ν hV0 hO hW0 hI ht hk (by decide)
        refine am_q_call rfl rfl (hc2) rfl ?_
        refine am_q_goto rfl ?_
        refine am_q_ireturn rfl rfl rfl ?_
        have hq : qBlurts V W (nI k) = becI V W k 4 := by
          rw [blurts_m hI hk h6 c_19, qBlurts, sIs_nI hk (by omega), decide_eq_true c_19, ik_nI (by omega)]
          by_cases z : vLeak V k = true
          · rw [if_pos ⟨rfl, z⟩, if_pos z]
          · rw [if_neg (fun q => z q.2), if_neg z]
        rw [hq]
        exact ⟨_, rfl, fr_tr (fr_thr μ) hf2⟩)
  obtain ⟨r, h1, μ', h2, h3⟩ := key
  exact ⟨μ', by rw [h1, h2], h3⟩
