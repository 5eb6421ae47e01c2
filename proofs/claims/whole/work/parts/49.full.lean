theorem s_isAny0 (d : Nat) (n : Nat) {V : sVal} {pl : Nat → Option Nat} {μ : am_M2} (ν : am_N2) (hV : xVal μ V) (hO : vOk V) (hp : pOk V pl) (lo st : Nat) (hl : lo < 64) (hs : st < 64) (hlo : ∀ s, lo.testBit s = true → s < vN V) (hd : ∀ s, lo.testBit s = true → st.testBit s = false) (hg : ∀ k, k < 6 → μ 37 k = sn_spot (pl k)) (hw : waysL V (mvL lo 6) (stP pl st) = []) : ∃ (μ' : am_M2), am_run (d + 6) 128 [.ref 120, .ref 37, .int (nI lo), .int (nI st)] (am_hp n μ ν) = some (some (.int (sB false)), am_hp n μ' ν) ∧ fr μ μ' := by
  obtain ⟨μ1, hb, hf1, hm, hi⟩ := s_wbegin2 (d + 3) n ν hO.1.1 hp lo st hl hs hlo hd hg
  rw [hw] at hi
  obtain ⟨μ2, hc, hf2⟩ := s_nextN d n ν (xVal_fr hf1 hV) hO hm hi
  have key : ∃ r, am_run (d + 6) 128 [.ref 120, .ref 37, .int (nI lo), .int (nI st)] (am_hp n μ ν) = some r ∧ ∃ (μ' : am_M2), r = (some (.int (sB false)), am_hp n μ' ν) ∧ fr μ μ' := am_run_wE (k := 128) (d := d + 5) rfl rfl (Nat.le_of_ble_eq_true rfl) [some (.ref 120), some (.ref 37), some (.int (nI lo)), some (.int (nI st))] rfl (by
    refine am_q_aload_n rfl rfl ?_
    refine am_q_aload_n rfl rfl ?_
    refine am_q_iload_n rfl rfl ?_
    refine am_q_iload_n rfl rfl ?_
    refine am_q_call rfl rfl (hb) rfl ?_
    refine am_q_aload_n rfl rfl ?_
    refine am_q_call rfl rfl (hc) rfl ?_
    refine am_q_ireturn rfl rfl (sB_ok _) ?_
    exact ⟨_, rfl, fr_tr hf1 hf2⟩)
  obtain ⟨r, h1, μ', h2, h3⟩ := key
  exact ⟨μ', by rw [h1, h2], h3⟩

theorem s_isAny1 (d : Nat) (n : Nat) {V : sVal} {pl : Nat → Option Nat} {μ : am_M2} (ν : am_N2) (hV : xVal μ V) (hO : vOk V) (hp : pOk V pl) (lo st : Nat) (hl : lo < 64) (hs : st < 64) (hlo : ∀ s, lo.testBit s = true → s < vN V) (hd : ∀ s, lo.testBit s = true → st.testBit s = false) (hg : ∀ k, k < 6 → μ 37 k = sn_spot (pl k)) (w : Nat → Option Nat) (vs : List (Nat → Option Nat)) (hw : waysL V (mvL lo 6) (stP pl st) = w :: vs) : ∃ (μ' : am_M2), am_run (d + 6) 128 [.ref 120, .ref 37, .int (nI lo), .int (nI st)] (am_hp n μ ν) = some (some (.int (sB true)), am_hp n μ' ν) ∧ fr μ μ' := by
  obtain ⟨μ1, hb, hf1, hm, hi⟩ := s_wbegin2 (d + 3) n ν hO.1.1 hp lo st hl hs hlo hd hg
  rw [hw] at hi
  obtain ⟨μ2, hc, hf2, -⟩ := s_nextC d n ν (xVal_fr hf1 hV) hO hm hi
  have key : ∃ r, am_run (d + 6) 128 [.ref 120, .ref 37, .int (nI lo), .int (nI st)] (am_hp n μ ν) = some r ∧ ∃ (μ' : am_M2), r = (some (.int (sB true)), am_hp n μ' ν) ∧ fr μ μ' := am_run_wE (k := 128) (d := d + 5) rfl rfl (Nat.le_of_ble_eq_true rfl) [some (.ref 120), some (.ref 37), some (.int (nI lo)), some (.int (nI st))] rfl (by
    refine am_q_aload_n rfl rfl ?_
    refine am_q_aload_n rfl rfl ?_
    refine am_q_iload_n rfl rfl ?_
    refine am_q_iload_n rfl rfl ?_
    refine am_q_call rfl rfl (hb) rfl ?_
    refine am_q_aload_n rfl rfl ?_
    refine am_q_call rfl rfl (hc) rfl ?_
    refine am_q_ireturn rfl rfl (sB_ok _) ?_
    exact ⟨_, rfl, fr_tr hf1 hf2⟩)
  obtain ⟨r, h1, μ', h2, h3⟩ := key
  exact ⟨μ', by rw [h1, h2], h3⟩

theorem s_isAny (d : Nat) (n : Nat) {V : sVal} {pl : Nat → Option Nat} {μ : am_M2} (ν : am_N2) (hV : xVal μ V) (hO : vOk V) (hp : pOk V pl) (lo st : Nat) (hl : lo < 64) (hs : st < 64) (hlo : ∀ s, lo.testBit s = true → s < vN V) (hd : ∀ s, lo.testBit s = true → st.testBit s = false) (hg : ∀ k, k < 6 → μ 37 k = sn_spot (pl k)) : ∃ μ', am_run (d + 6) 128 [.ref 120, .ref 37, .int (nI lo), .int (nI st)] (am_hp n μ ν) = some (some (.int (sB (!(waysL V (mvL lo 6) (stP pl st)).isEmpty))), am_hp n μ' ν) ∧ fr μ μ' := by
  cases hw : waysL V (mvL lo 6) (stP pl st) with
  | nil => exact s_isAny0 d n ν hV hO hp lo st hl hs hlo hd hg hw
  | cons w vs => exact s_isAny1 d n ν hV hO hp lo st hl hs hlo hd hg w vs hw
def anyW (V : sVal) (W : sWall) (b : Nat) : Bool := !(waysL V (mvL b 6) (stP W.2.1 (sSt V W))).isEmpty
def fuS (V : sVal) (W : sWall) : Nat → Nat := lpF (fun j b => if sn_bc b < sn_bc j ∧ j &&& sLo V W = j ∧ anyW V W j = true then j else b) 0
theorem fuS_y {V : sVal} {W : sWall} {j : Nat} (h : sn_bc (fuS V W j) < sn_bc j ∧ j &&& sLo V W = j ∧ anyW V W j = true) : fuS V W (j + 1) = j := if_pos h
theorem fuS_n {V : sVal} {W : sWall} {j : Nat} (h : ¬ (sn_bc (fuS V W j) < sn_bc j ∧ j &&& sLo V W = j ∧ anyW V W j = true)) : fuS V W (j + 1) = fuS V W j := if_neg h
theorem fuS_le (V : sVal) (W : sWall) : ∀ n, fuS V W n ≤ n
  | 0 => Nat.le_refl _
  | n + 1 => by
    have := fuS_le V W n
    by_cases h : sn_bc (fuS V W n) < sn_bc n ∧ n &&& sLo V W = n ∧ anyW V W n = true
    · rw [fuS_y h]; omega
    · rw [fuS_n h]; omega
theorem sn_bc_le : ∀ a, a < 64 → sn_bc a ≤ 6 := by decide +kernel
theorem lt64_tb {a s : Nat} (h : a < 64) (hs : a.testBit s = true) : s < 6 := by
  rcases Nat.lt_or_ge s 6 with q | q
  · exact q
  · have h2 : 2 ^ 6 ≤ 2 ^ s := Nat.pow_le_pow_right (by decide) q
    rw [Nat.testBit_lt_two_pow (Nat.lt_of_lt_of_le h h2)] at hs; cases hs
theorem and_sub {a b s : Nat} (h : a &&& b = a) (hs : a.testBit s = true) : b.testBit s = true := by
  rw [← h, Nat.testBit_and] at hs
  exact ((Bool.and_eq_true _ _).mp hs).2
theorem sLoSt {V : sVal} {W : sWall} {s : Nat} (h : (sLo V W).testBit s = true) : (sSt V W).testBit s = false := by
  rw [sLo, sBits_tb] at h; rw [sSt, sBits_tb]; simp only [Bool.and_eq_true, Bool.or_eq_true, decide_eq_true_eq] at h; simp; omega
theorem sSt_N {V : sVal} {W : sWall} {s : Nat} (h : (sSt V W).testBit s = true) : s < vN V := by
  rw [sSt, sBits_tb] at h; simp only [Bool.and_eq_true, decide_eq_true_eq] at h; exact h.1
theorem s_fullL (d : Nat) (n : Nat) {V : sVal} {W : sWall} {μ : am_M2} (ν : am_N2) (hV : xVal μ V) (hO : vOk V) (hW : xWall μ 35 W) (hI : sI (vN V) (vP V) W.1 W.2.1) (ht : W.2.2 < 2 ^ 20) : ∀ (m j : Nat) (μ1 : am_M2) (o5 : Option Value), j + m = 64 → fr μ μ1 → am_w (d + 6) (Option.some FieldType.int) am_g126 22 [some (.ref 2), some (.int (nI (sLo V W))), some (.int (nI (sSt V W))), some (.int (nI (fuS V W j))), some (.int (nI j)), o5] [] (am_hp n μ1 ν) (fun y => ∃ (μ' : am_M2), y = (some (.int (nI (fuS V W 64))), am_hp n μ' ν) ∧ fr μ μ') := by
  intro m
  induction m with
  | zero =>
    intro j μ1 o5 hj hinv
    have h6 := hO.1.1
    have hP8 := hO.1.2.1
    have h8 := sI_8 hO hI
    have hV1 := xVal_fr hinv hV
    have hW1 := xW_fr hinv (Or.inl rfl) hW
    have hfl := fuS_le V W j
    refine am_q_iload rfl rfl ?_
    refine am_q_bipush (v := nI 64) rfl rfl ?_
    refine am_q_igeN rfl (by omega) (by omega) (fun c_26 => ?_) (fun c_26 => absurd c_26 (by omega))
    refine am_q_iload_n rfl rfl ?_
    refine am_q_ireturn rfl rfl rfl ?_
    exact ⟨_, by rw [show j = 64 by omega], hinv⟩
  | succ m ih =>
    intro j μ1 o5 hj hinv
    have h6 := hO.1.1
    have hP8 := hO.1.2.1
    have h8 := sI_8 hO hI
    have hV1 := xVal_fr hinv hV
    have hW1 := xW_fr hinv (Or.inl rfl) hW
    have hfl := fuS_le V W j
    have b1 := sn_bc_le j (by omega)
    have b2 := sn_bc_le (fuS V W j) (by omega)
    refine am_q_iload rfl rfl ?_
    refine am_q_bipush (v := nI 64) rfl rfl ?_
    refine am_q_igeN rfl (by omega) (by omega) (fun c_26 => absurd c_26 (by omega)) (fun c_26 => ?_)
    refine am_q_iload rfl rfl ?_
    refine am_q_call rfl rfl (s_bitCount _ _ (by omega) _) rfl ?_
    refine am_q_iload_n rfl rfl ?_
    refine am_q_call rfl rfl (s_bitCount _ _ (by omega) _) rfl ?_
    refine am_q_ileN rfl (by omega) (by omega) (fun c_38 => ?_) (fun c_38 => ?_)
    · have hn : ¬ (sn_bc (fuS V W j) < sn_bc j ∧ j &&& sLo V W = j ∧ anyW V W j = true) := fun z => by omega
      refine am_q_iconst (v := nI 0) rfl rfl ?_
      refine am_q_istore [some _, some _, some _, some _, some _, some _] rfl (Nat.le_of_ble_eq_true rfl) rfl ?_
      refine am_q_iload rfl rfl ?_
      refine am_q_zeqN rfl (by omega) (fun c_50 => ?_) (fun c_50 => absurd c_50 (by omega))
      refine am_q_iinc [some _, some _, some _, some _, some _, some _] rfl (c := nI 1) rfl rfl (Nat.le_of_ble_eq_true rfl) (nI_add _ _) rfl ?_
      refine am_q_goto rfl ?_
      first | (have e := fun o => ih (j + 1) μ2 o (by omega) (fr_tr hinv hf2); simp only [fuS_y hy] at e; exact e _) | (have e := fun o => ih (j + 1) μ2 o (by omega) (fr_tr hinv hf2); simp only [fuS_n hn] at e; exact e _) | (have e := fun o => ih (j + 1) μ1 o (by omega) hinv; simp only [fuS_n hn] at e; exact e _)
    · refine am_q_iconst (v := nI 1) rfl rfl ?_
      refine am_q_goto rfl ?_
      refine am_q_istore [some _, some _, some _, some _, some _, some _] rfl (Nat.le_of_ble_eq_true rfl) rfl ?_
      refine am_q_iload rfl rfl ?_
      refine am_q_zeqN rfl (by omega) (fun c_50 => absurd c_50 (by omega)) (fun c_50 => ?_)
      refine am_q_iload rfl rfl ?_
      refine am_q_iload_n rfl rfl ?_
      refine am_q_call rfl rfl (s_isWithin _ j (sLo V W) (by omega) (sn_64 h6) _) rfl ?_
      refine am_q_if_eqB rfl (fun c_59 => ?_) (fun c_59 => ?_)
      · have hn : ¬ (sn_bc (fuS V W j) < sn_bc j ∧ j &&& sLo V W = j ∧ anyW V W j = true) := fun z => (of_decide_eq_false c_59) z.2.1
        refine am_q_iinc [some _, some _, some _, some _, some _, some _] rfl (c := nI 1) rfl rfl (Nat.le_of_ble_eq_true rfl) (nI_add _ _) rfl ?_
        refine am_q_goto rfl ?_
        first | (have e := fun o => ih (j + 1) μ2 o (by omega) (fr_tr hinv hf2); simp only [fuS_y hy] at e; exact e _) | (have e := fun o => ih (j + 1) μ2 o (by omega) (fr_tr hinv hf2); simp only [fuS_n hn] at e; exact e _) | (have e := fun o => ih (j + 1) μ1 o (by omega) hinv; simp only [fuS_n hn] at e; exact e _)
      · have c_59 := of_decide_eq_true c_59
        obtain ⟨μ2, hc, hf2⟩ := s_isAny d n ν hV1 hO (sI_p hI) j (sSt V W) (by omega) (sn_64 h6) (fun s hs => sLo_N s (and_sub c_59 hs)) (fun s hs => sLoSt (and_sub c_59 hs)) hW1.2.1
        refine am_q_aload_n rfl rfl ?_
        refine am_q_gr rfl rfl rfl ?_
        refine am_q_aload_n rfl rfl ?_
        refine am_q_gr rfl rfl rfl ?_
        refine am_q_gr rfl rfl rfl ?_
        refine am_q_iload rfl rfl ?_
        refine am_q_iload_n rfl rfl ?_
        refine am_q_call rfl rfl (hc) rfl ?_
        refine am_q_if_eqB rfl (fun c_79 => ?_) (fun c_79 => ?_)
        · have hn : ¬ (sn_bc (fuS V W j) < sn_bc j ∧ j &&& sLo V W = j ∧ anyW V W j = true) := fun z => by have z2 := z.2.2; unfold anyW at z2; rw [z2] at c_79; cases c_79
          refine am_q_iinc [some _, some _, some _, some _, some _, some _] rfl (c := nI 1) rfl rfl (Nat.le_of_ble_eq_true rfl) (nI_add _ _) rfl ?_
          refine am_q_goto rfl ?_
          first | (have e := fun o => ih (j + 1) μ2 o (by omega) (fr_tr hinv hf2); simp only [fuS_y hy] at e; exact e _) | (have e := fun o => ih (j + 1) μ2 o (by omega) (fr_tr hinv hf2); simp only [fuS_n hn] at e; exact e _) | (have e := fun o => ih (j + 1) μ1 o (by omega) hinv; simp only [fuS_n hn] at e; exact e _)
        · have hy : sn_bc (fuS V W j) < sn_bc j ∧ j &&& sLo V W = j ∧ anyW V W j = true := ⟨c_38, c_59, c_79⟩
          refine am_q_iload rfl rfl ?_
          refine am_q_istore_n [some _, some _, some _, some _, some _, some _] rfl (Nat.le_of_ble_eq_true rfl) rfl ?_
          refine am_q_iinc [some _, some _, some _, some _, some _, some _] rfl (c := nI 1) rfl rfl (Nat.le_of_ble_eq_true rfl) (nI_add _ _) rfl ?_
          refine am_q_goto rfl ?_
          first | (have e := fun o => ih (j + 1) μ2 o (by omega) (fr_tr hinv hf2); simp only [fuS_y hy] at e; exact e _) | (have e := fun o => ih (j + 1) μ2 o (by omega) (fr_tr hinv hf2); simp only [fuS_n hn] at e; exact e _) | (have e := fun o => ih (j + 1) μ1 o (by omega) hinv; simp only [fuS_n hn] at e; exact e _)

/-- StoneSecrets.fullestSet()I -/
theorem s_fullest (d : Nat) (n : Nat) {V : sVal} {W : sWall} {μ : am_M2} (ν : am_N2) (hV : xVal μ V) (hO : vOk V) (hW : xWall μ 35 W) (hI : sI (vN V) (vP V) W.1 W.2.1) (ht : W.2.2 < 2 ^ 20) : ∃ (μ' : am_M2), am_run (d + 7) 126 [.ref 2] (am_hp n μ ν) = some (some (.int (nI (fuS V W 64))), am_hp n μ' ν) ∧ fr μ μ' := by
  have h6 := hO.1.1
  have hP8 := hO.1.2.1
  have h8 := sI_8 hO hI
  have key : ∃ r, am_run (d + 7) 126 [.ref 2] (am_hp n μ ν) = some r ∧ ∃ (μ' : am_M2), r = (some (.int (nI (fuS V W 64))), am_hp n μ' ν) ∧ fr μ μ' := am_run_wE (k := 126) (d := d + 6) rfl rfl (Nat.le_of_ble_eq_true rfl) [some (.ref 2), none, none, none, none, none] rfl (by
    refine am_q_aload_n rfl rfl ?_
    refine am_q_gr rfl rfl rfl ?_
    refine am_q_call rfl rfl (s_loose _ _ _ hV.1 hW hI) rfl ?_
    refine am_q_istore_n [some _, some _, none, none, none, none] rfl (Nat.le_of_ble_eq_true rfl) rfl ?_
    refine am_q_aload_n rfl rfl ?_
    refine am_q_gr rfl rfl rfl ?_
    refine am_q_iconst (v := nI 2) rfl rfl ?_
    refine am_q_call rfl rfl (s_who35 _ _ (by omega) _ _ hV.1 hW hI) rfl ?_
    refine am_q_istore_n [some _, some _, some _, none, none, none] rfl (Nat.le_of_ble_eq_true rfl) rfl ?_
    refine am_q_iconst (v := nI 0) rfl rfl ?_
    refine am_q_istore_n [some _, some _, some _, some _, none, none] rfl (Nat.le_of_ble_eq_true rfl) rfl ?_
    refine am_q_iconst (v := nI 1) rfl rfl ?_
    refine am_q_istore [some _, some _, some _, some _, some _, none] rfl (Nat.le_of_ble_eq_true rfl) rfl ?_
    exact s_fullL d n ν hV hO hW hI ht 63 1 μ none (by omega) (fr_rf _))
  obtain ⟨r, h1, μ', h2, h3⟩ := key
  exact ⟨μ', by rw [h1, h2], h3⟩

/-- StoneSecrets.most()I -/
theorem x_most (d : Nat) (n : Nat) {V : sVal} {W : sWall} {μ : am_M2} (ν : am_N2) (hV : xVal μ V) (hO : vOk V) (hW : xWall μ 35 W) (hI : sI (vN V) (vP V) W.1 W.2.1) (ht : W.2.2 < 2 ^ 20) : ∃ (μ' : am_M2), am_run (d + 8) 125 [.ref 2] (am_hp n μ ν) = some (some (.int (nI (sn_bc (fuS V W 64)))), am_hp n μ' ν) ∧ fr μ μ' := by
  obtain ⟨μ1, hc, hf⟩ := s_fullest d n ν hV hO hW hI ht
  have hl := fuS_le V W 64
  have key : ∃ r, am_run (d + 8) 125 [.ref 2] (am_hp n μ ν) = some r ∧ ∃ (μ' : am_M2), r = (some (.int (nI (sn_bc (fuS V W 64)))), am_hp n μ' ν) ∧ fr μ μ' := am_run_wE (k := 125) (d := d + 7) rfl rfl (Nat.le_of_ble_eq_true rfl) [some (.ref 2)] rfl (by
    refine am_q_aload_n rfl rfl ?_
    refine am_q_call rfl rfl (hc) rfl ?_
    refine am_q_call rfl rfl (s_bitCount _ _ (by omega) _) rfl ?_
    refine am_q_ireturn rfl rfl rfl ?_
    exact ⟨_, rfl, hf⟩)
  obtain ⟨r, h1, μ', h2, h3⟩ := key
  exact ⟨μ', by rw [h1, h2], h3⟩

/-- StoneSecrets.fullest()I -/
theorem x_fullest (d : Nat) (n : Nat) {V : sVal} {W : sWall} {μ : am_M2} (ν : am_N2) (hV : xVal μ V) (hO : vOk V) (hW : xWall μ 35 W) (hI : sI (vN V) (vP V) W.1 W.2.1) (ht : W.2.2 < 2 ^ 20) : ∃ (μ' : am_M2), am_run (d + 8) 129 [.ref 2] (am_hp n μ ν) = some (some (.int (nI (fuS V W 64))), am_hp n μ' ν) ∧ fr μ μ' := by
  obtain ⟨μ1, hc, hf⟩ := s_fullest d n ν hV hO hW hI ht
  have key : ∃ r, am_run (d + 8) 129 [.ref 2] (am_hp n μ ν) = some r ∧ ∃ (μ' : am_M2), r = (some (.int (nI (fuS V W 64))), am_hp n μ' ν) ∧ fr μ μ' := am_run_wE (k := 129) (d := d + 7) rfl rfl (Nat.le_of_ble_eq_true rfl) [some (.ref 2)] rfl (by
    refine am_q_aload_n rfl rfl ?_
    refine am_q_call rfl rfl (hc) rfl ?_
    refine am_q_ireturn rfl rfl rfl ?_
    exact ⟨_, rfl, hf⟩)
  obtain ⟨r, h1, μ', h2, h3⟩ := key
  exact ⟨μ', by rw [h1, h2], h3⟩

def anyC (V : sVal) (W : sWall) (b : Nat) : Bool := !(waysL V (mvL (sLo V W ||| b) 6) (stP W.2.1 (sSt V W &&& (2 ^ 32 - (b + 1))))).isEmpty
def clS (V : sVal) (W : sWall) : Nat → Option Nat := lpF (fun j b => if (∀ x, b = some x → sn_bc j < sn_bc x) ∧ j &&& sSt V W = j ∧ anyC V W j = true then some j else b) none
theorem clS_y {V : sVal} {W : sWall} {j : Nat} (h : (∀ x, clS V W j = some x → sn_bc j < sn_bc x) ∧ j &&& sSt V W = j ∧ anyC V W j = true) : clS V W (j + 1) = some j := if_pos h
theorem clS_n {V : sVal} {W : sWall} {j : Nat} (h : ¬ ((∀ x, clS V W j = some x → sn_bc j < sn_bc x) ∧ j &&& sSt V W = j ∧ anyC V W j = true)) : clS V W (j + 1) = clS V W j := if_neg h
theorem clS_lt (V : sVal) (W : sWall) : ∀ n x, clS V W n = some x → x < n
  | 0, x, h => by cases h
  | n + 1, x, h => by
    by_cases z : (∀ x, clS V W n = some x → sn_bc n < sn_bc x) ∧ n &&& sSt V W = n ∧ anyC V W n = true
    · rw [clS_y z] at h; cases h; omega
    · rw [clS_n z] at h; have := clS_lt V W n x h; omega
theorem andn_tb {a b s : Nat} (hb : b < 2 ^ 32) (hs : s < 32) : (a &&& (2 ^ 32 - (b + 1))).testBit s = (a.testBit s && !b.testBit s) := by
  rw [Nat.testBit_and, Nat.testBit_two_pow_sub_succ hb]; simp [hs]
theorem s_clearL (d : Nat) (n : Nat) {V : sVal} {W : sWall} {μ : am_M2} (ν : am_N2) (hV : xVal μ V) (hO : vOk V) (hW : xWall μ 35 W) (hI : sI (vN V) (vP V) W.1 W.2.1) (ht : W.2.2 < 2 ^ 20) : ∀ (m j : Nat) (μ1 : am_M2) (o5 : Option Value), j + m = 64 → fr μ μ1 → am_w (d + 6) (Option.some FieldType.int) am_g130 22 [some (.ref 2), some (.int (nI (sLo V W))), some (.int (nI (sSt V W))), some (.int (sn_place (clS V W j))), some (.int (nI j)), o5] [] (am_hp n μ1 ν) (fun y => ∃ (μ' : am_M2), y = (some (.int (sn_place (clS V W 64))), am_hp n μ' ν) ∧ fr μ μ') := by
  intro m
  induction m with
  | zero =>
    intro j μ1 o5 hj hinv
    have h6 := hO.1.1
    have hP8 := hO.1.2.1
    have h8 := sI_8 hO hI
    have hV1 := xVal_fr hinv hV
    have hW1 := xW_fr hinv (Or.inl rfl) hW
    have hcl := clS_lt V W j
    refine am_q_iload rfl rfl ?_
    refine am_q_bipush (v := nI 64) rfl rfl ?_
    refine am_q_igeN rfl (by omega) (by omega) (fun c_26 => ?_) (fun c_26 => absurd c_26 (by omega))
    refine am_q_iload_n rfl rfl ?_
    refine am_q_ireturn rfl rfl rfl ?_
    exact ⟨_, by rw [show j = 64 by omega], hinv⟩
  | succ m ih =>
    intro j μ1 o5 hj hinv
    have h6 := hO.1.1
    have hP8 := hO.1.2.1
    have h8 := sI_8 hO hI
    have hV1 := xVal_fr hinv hV
    have hW1 := xW_fr hinv (Or.inl rfl) hW
    have hcl := clS_lt V W j
    have b1 := sn_bc_le j (by omega)
    refine am_q_iload rfl rfl ?_
    refine am_q_bipush (v := nI 64) rfl rfl ?_
    refine am_q_igeN rfl (by omega) (by omega) (fun c_26 => absurd c_26 (by omega)) (fun c_26 => ?_)
    refine am_q_iload_n rfl rfl ?_
    refine am_q_iconst (v := -1) rfl rfl ?_
    refine am_q_icmp_eq rfl (fun c_31 => ?_) (fun c_31 => ?_)
    · have hq := pl_none c_31 (fun k hk => by have := hcl k hk; omega)
      have hb : ∀ x, clS V W j = some x → sn_bc j < sn_bc x := fun x q => by rw [hq] at q; cases q
      refine am_q_iconst (v := nI 1) rfl rfl ?_
      refine am_q_goto rfl ?_
      refine am_q_istore [some _, some _, some _, some _, some _, some _] rfl (Nat.le_of_ble_eq_true rfl) rfl ?_
      refine am_q_iload rfl rfl ?_
      refine am_q_zeqN rfl (by omega) (fun c_55 => absurd c_55 (by omega)) (fun c_55 => ?_)
      refine am_q_iload rfl rfl ?_
      refine am_q_iload_n rfl rfl ?_
      refine am_q_call rfl rfl (s_isWithin _ j (sSt V W) (by omega) (sn_64 h6) _) rfl ?_
      refine am_q_if_eqB rfl (fun c_64 => ?_) (fun c_64 => ?_)
      · have hn : ¬ ((∀ x, clS V W j = some x → sn_bc j < sn_bc x) ∧ j &&& sSt V W = j ∧ anyC V W j = true) := fun z => (of_decide_eq_false c_64) z.2.1
        refine am_q_iinc [some _, some _, some _, some _, some _, some _] rfl (c := nI 1) rfl rfl (Nat.le_of_ble_eq_true rfl) (nI_add _ _) rfl ?_
        refine am_q_goto rfl ?_
        first | (have e := fun o => ih (j + 1) μ2 o (by omega) (fr_tr hinv hf2); simp only [clS_y hy] at e; exact e _) | (have e := fun o => ih (j + 1) μ2 o (by omega) (fr_tr hinv hf2); simp only [clS_n hn] at e; (try rw [hx] at e); exact e _) | (have e := fun o => ih (j + 1) μ1 o (by omega) hinv; simp only [clS_n hn] at e; (try simp only [hx] at e); exact e _)
      · have c_64 := of_decide_eq_true c_64
        have h64l : sLo V W ||| j < 64 := Nat.or_lt_two_pow (n := 6) (sn_64 h6) (by omega)
        obtain ⟨μ2, hc, hf2⟩ := s_isAny d n ν hV1 hO (sI_p hI) (sLo V W ||| j) (sSt V W &&& (2 ^ 32 - (j + 1))) h64l (Nat.lt_of_le_of_lt Nat.and_le_left (sn_64 h6)) (fun s hs => by rw [Nat.testBit_or] at hs; rcases (Bool.or_eq_true _ _).mp hs with q | q; exact sLo_N s q; exact sSt_N (and_sub c_64 q)) (fun s hs => by have hs6 : s < 6 := lt64_tb h64l hs; rw [andn_tb (by omega) (by omega)]; rw [Nat.testBit_or] at hs; rcases (Bool.or_eq_true _ _).mp hs with q | q; rw [sLoSt q]; rfl; rw [q]; simp) hW1.2.1
        refine am_q_aload_n rfl rfl ?_
        refine am_q_gr rfl rfl rfl ?_
        refine am_q_aload_n rfl rfl ?_
        refine am_q_gr rfl rfl rfl ?_
        refine am_q_gr rfl rfl rfl ?_
        refine am_q_iload_n rfl rfl ?_
        refine am_q_iload rfl rfl ?_
        refine am_q_ior rfl (sn_or _ _) ?_
        refine am_q_iload_n rfl rfl ?_
        refine am_q_iload rfl rfl ?_
        refine am_q_iconst (v := -1) rfl rfl ?_
        refine am_q_ixor rfl rfl ?_
        refine am_q_iand rfl (sn_andn _ (by omega)) ?_
        refine am_q_call rfl rfl (hc) rfl ?_
        refine am_q_if_eqB rfl (fun c_91 => ?_) (fun c_91 => ?_)
        · have hn : ¬ ((∀ x, clS V W j = some x → sn_bc j < sn_bc x) ∧ j &&& sSt V W = j ∧ anyC V W j = true) := fun z => by have z2 := z.2.2; unfold anyC at z2; rw [z2] at c_91; cases c_91
          refine am_q_iinc [some _, some _, some _, some _, some _, some _] rfl (c := nI 1) rfl rfl (Nat.le_of_ble_eq_true rfl) (nI_add _ _) rfl ?_
          refine am_q_goto rfl ?_
          first | (have e := fun o => ih (j + 1) μ2 o (by omega) (fr_tr hinv hf2); simp only [clS_y hy] at e; exact e _) | (have e := fun o => ih (j + 1) μ2 o (by omega) (fr_tr hinv hf2); simp only [clS_n hn] at e; (try rw [hx] at e); exact e _) | (have e := fun o => ih (j + 1) μ1 o (by omega) hinv; simp only [clS_n hn] at e; (try simp only [hx] at e); exact e _)
        · have hy : (∀ x, clS V W j = some x → sn_bc j < sn_bc x) ∧ j &&& sSt V W = j ∧ anyC V W j = true := ⟨hb, c_64, c_91⟩
          refine am_q_iload rfl rfl ?_
          refine am_q_istore_n [some _, some _, some _, some _, some _, some _] rfl (Nat.le_of_ble_eq_true rfl) rfl ?_
          refine am_q_iinc [some _, some _, some _, some _, some _, some _] rfl (c := nI 1) rfl rfl (Nat.le_of_ble_eq_true rfl) (nI_add _ _) rfl ?_
          refine am_q_goto rfl ?_
          first | (have e := fun o => ih (j + 1) μ2 o (by omega) (fr_tr hinv hf2); simp only [clS_y hy] at e; exact e _) | (have e := fun o => ih (j + 1) μ2 o (by omega) (fr_tr hinv hf2); simp only [clS_n hn] at e; (try rw [hx] at e); exact e _) | (have e := fun o => ih (j + 1) μ1 o (by omega) hinv; simp only [clS_n hn] at e; (try simp only [hx] at e); exact e _)
    · obtain ⟨x, hx⟩ := pl_some c_31
      have hxl := hcl x hx
      have b2 := sn_bc_le x (by omega)
      refine am_q_iload rfl rfl ?_
      refine am_q_call rfl rfl (s_bitCount _ _ (by omega) _) rfl ?_
      refine am_q_iload_n rfl rfl ?_
      rw [hx]
      show am_w _ _ _ _ _ (.int (nI x) :: _) _ _
      refine am_q_call rfl rfl (s_bitCount _ x (by omega) _) rfl ?_
      refine am_q_igeN rfl (by omega) (by omega) (fun c_43 => ?_) (fun c_43 => ?_)
      · have hn : ¬ ((∀ x, clS V W j = some x → sn_bc j < sn_bc x) ∧ j &&& sSt V W = j ∧ anyC V W j = true) := fun z => by have := z.1 x hx; omega
        refine am_q_iconst (v := nI 0) rfl rfl ?_
        refine am_q_istore [some _, some _, some _, some _, some _, some _] rfl (Nat.le_of_ble_eq_true rfl) rfl ?_
        refine am_q_iload rfl rfl ?_
        refine am_q_zeqN rfl (by omega) (fun c_55 => ?_) (fun c_55 => absurd c_55 (by omega))
        refine am_q_iinc [some _, some _, some _, some _, some _, some _] rfl (c := nI 1) rfl rfl (Nat.le_of_ble_eq_true rfl) (nI_add _ _) rfl ?_
        refine am_q_goto rfl ?_
        first | (have e := fun o => ih (j + 1) μ2 o (by omega) (fr_tr hinv hf2); simp only [clS_y hy] at e; exact e _) | (have e := fun o => ih (j + 1) μ2 o (by omega) (fr_tr hinv hf2); simp only [clS_n hn] at e; (try rw [hx] at e); exact e _) | (have e := fun o => ih (j + 1) μ1 o (by omega) hinv; simp only [clS_n hn] at e; (try simp only [hx] at e); exact e _)
      · have hb : ∀ y, clS V W j = some y → sn_bc j < sn_bc y := fun y q => by rw [hx] at q; cases q; exact c_43
        refine am_q_iconst (v := nI 1) rfl rfl ?_
        refine am_q_goto rfl ?_
        refine am_q_istore [some _, some _, some _, some _, some _, some _] rfl (Nat.le_of_ble_eq_true rfl) rfl ?_
        refine am_q_iload rfl rfl ?_
        refine am_q_zeqN rfl (by omega) (fun c_55 => absurd c_55 (by omega)) (fun c_55 => ?_)
        refine am_q_iload rfl rfl ?_
        refine am_q_iload_n rfl rfl ?_
        refine am_q_call rfl rfl (s_isWithin _ j (sSt V W) (by omega) (sn_64 h6) _) rfl ?_
        refine am_q_if_eqB rfl (fun c_64 => ?_) (fun c_64 => ?_)
        · have hn : ¬ ((∀ x, clS V W j = some x → sn_bc j < sn_bc x) ∧ j &&& sSt V W = j ∧ anyC V W j = true) := fun z => (of_decide_eq_false c_64) z.2.1
          refine am_q_iinc [some _, some _, some _, some _, some _, some _] rfl (c := nI 1) rfl rfl (Nat.le_of_ble_eq_true rfl) (nI_add _ _) rfl ?_
          refine am_q_goto rfl ?_
          first | (have e := fun o => ih (j + 1) μ2 o (by omega) (fr_tr hinv hf2); simp only [clS_y hy] at e; exact e _) | (have e := fun o => ih (j + 1) μ2 o (by omega) (fr_tr hinv hf2); simp only [clS_n hn] at e; (try rw [hx] at e); exact e _) | (have e := fun o => ih (j + 1) μ1 o (by omega) hinv; simp only [clS_n hn] at e; (try simp only [hx] at e); exact e _)
        · have c_64 := of_decide_eq_true c_64
          have h64l : sLo V W ||| j < 64 := Nat.or_lt_two_pow (n := 6) (sn_64 h6) (by omega)
          obtain ⟨μ2, hc, hf2⟩ := s_isAny d n ν hV1 hO (sI_p hI) (sLo V W ||| j) (sSt V W &&& (2 ^ 32 - (j + 1))) h64l (Nat.lt_of_le_of_lt Nat.and_le_left (sn_64 h6)) (fun s hs => by rw [Nat.testBit_or] at hs; rcases (Bool.or_eq_true _ _).mp hs with q | q; exact sLo_N s q; exact sSt_N (and_sub c_64 q)) (fun s hs => by have hs6 : s < 6 := lt64_tb h64l hs; rw [andn_tb (by omega) (by omega)]; rw [Nat.testBit_or] at hs; rcases (Bool.or_eq_true _ _).mp hs with q | q; rw [sLoSt q]; rfl; rw [q]; simp) hW1.2.1
          refine am_q_aload_n rfl rfl ?_
          refine am_q_gr rfl rfl rfl ?_
          refine am_q_aload_n rfl rfl ?_
          refine am_q_gr rfl rfl rfl ?_
          refine am_q_gr rfl rfl rfl ?_
          refine am_q_iload_n rfl rfl ?_
          refine am_q_iload rfl rfl ?_
          refine am_q_ior rfl (sn_or _ _) ?_
          refine am_q_iload_n rfl rfl ?_
          refine am_q_iload rfl rfl ?_
          refine am_q_iconst (v := -1) rfl rfl ?_
          refine am_q_ixor rfl rfl ?_
          refine am_q_iand rfl (sn_andn _ (by omega)) ?_
          refine am_q_call rfl rfl (hc) rfl ?_
          refine am_q_if_eqB rfl (fun c_91 => ?_) (fun c_91 => ?_)
          · have hn : ¬ ((∀ x, clS V W j = some x → sn_bc j < sn_bc x) ∧ j &&& sSt V W = j ∧ anyC V W j = true) := fun z => by have z2 := z.2.2; unfold anyC at z2; rw [z2] at c_91; cases c_91
            refine am_q_iinc [some _, some _, some _, some _, some _, some _] rfl (c := nI 1) rfl rfl (Nat.le_of_ble_eq_true rfl) (nI_add _ _) rfl ?_
            refine am_q_goto rfl ?_
            first | (have e := fun o => ih (j + 1) μ2 o (by omega) (fr_tr hinv hf2); simp only [clS_y hy] at e; exact e _) | (have e := fun o => ih (j + 1) μ2 o (by omega) (fr_tr hinv hf2); simp only [clS_n hn] at e; (try rw [hx] at e); exact e _) | (have e := fun o => ih (j + 1) μ1 o (by omega) hinv; simp only [clS_n hn] at e; (try simp only [hx] at e); exact e _)
          · have hy : (∀ x, clS V W j = some x → sn_bc j < sn_bc x) ∧ j &&& sSt V W = j ∧ anyC V W j = true := ⟨hb, c_64, c_91⟩
            refine am_q_iload rfl rfl ?_
            refine am_q_istore_n [some _, some _, some _, some _, some _, some _] rfl (Nat.le_of_ble_eq_true rfl) rfl ?_
            refine am_q_iinc [some _, some _, some _, some _, some _, some _] rfl (c := nI 1) rfl rfl (Nat.le_of_ble_eq_true rfl) (nI_add _ _) rfl ?_
            refine am_q_goto rfl ?_
            first | (have e := fun o => ih (j + 1) μ2 o (by omega) (fr_tr hinv hf2); simp only [clS_y hy] at e; exact e _) | (have e := fun o => ih (j + 1) μ2 o (by omega) (fr_tr hinv hf2); simp only [clS_n hn] at e; (try rw [hx] at e); exact e _) | (have e := fun o => ih (j + 1) μ1 o (by omega) hinv; simp only [clS_n hn] at e; (try simp only [hx] at e); exact e _)

/-- StoneSecrets.clear()I -/
theorem x_clear (d : Nat) (n : Nat) {V : sVal} {W : sWall} {μ : am_M2} (ν : am_N2) (hV : xVal μ V) (hO : vOk V) (hW : xWall μ 35 W) (hI : sI (vN V) (vP V) W.1 W.2.1) (ht : W.2.2 < 2 ^ 20) : ∃ (μ' : am_M2), am_run (d + 7) 130 [.ref 2] (am_hp n μ ν) = some (some (.int (sn_place (clS V W 64))), am_hp n μ' ν) ∧ fr μ μ' := by
  have h6 := hO.1.1
  have hP8 := hO.1.2.1
  have h8 := sI_8 hO hI
  have key : ∃ r, am_run (d + 7) 130 [.ref 2] (am_hp n μ ν) = some r ∧ ∃ (μ' : am_M2), r = (some (.int (sn_place (clS V W 64))), am_hp n μ' ν) ∧ fr μ μ' := am_run_wE (k := 130) (d := d + 6) rfl rfl (Nat.le_of_ble_eq_true rfl) [some (.ref 2), none, none, none, none, none] rfl (by
    refine am_q_aload_n rfl rfl ?_
    refine am_q_gr rfl rfl rfl ?_
    refine am_q_call rfl rfl (s_loose _ _ _ hV.1 hW hI) rfl ?_
    refine am_q_istore_n [some _, some _, none, none, none, none] rfl (Nat.le_of_ble_eq_true rfl) rfl ?_
    refine am_q_aload_n rfl rfl ?_
    refine am_q_gr rfl rfl rfl ?_
    refine am_q_iconst (v := nI 2) rfl rfl ?_
    refine am_q_call rfl rfl (s_who35 _ _ (by omega) _ _ hV.1 hW hI) rfl ?_
    refine am_q_istore_n [some _, some _, some _, none, none, none] rfl (Nat.le_of_ble_eq_true rfl) rfl ?_
    refine am_q_iconst (v := -1) rfl rfl ?_
    refine am_q_istore_n [some _, some _, some _, some _, none, none] rfl (Nat.le_of_ble_eq_true rfl) rfl ?_
    refine am_q_iconst (v := nI 0) rfl rfl ?_
    refine am_q_istore [some _, some _, some _, some _, some _, none] rfl (Nat.le_of_ble_eq_true rfl) rfl ?_
    exact s_clearL d n ν hV hO hW hI ht 64 0 μ none (by omega) (fr_rf _))
  obtain ⟨r, h1, μ', h2, h3⟩ := key
  exact ⟨μ', by rw [h1, h2], h3⟩
