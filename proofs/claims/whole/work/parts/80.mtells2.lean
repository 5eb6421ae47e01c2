def aE (V : sVal) (μ : am_M2) (ws : List (Nat → Option Nat)) : Prop := μ 133 26 = p1 (evF V none 0 ws) ∧ μ 133 27 = p2 (evF V none 0 ws)
theorem p1_lt0 {a : Option (Nat × Nat)} (ha : ∀ b, a = some b → b.1 < 2 ^ 31) (h : p1 a < 0) : a = none := by
  cases a with
  | none => rfl
  | some b => exact absurd h (nI_pos (ha b rfl))
theorem p1_nlt0 {a : Option (Nat × Nat)} (h : ¬ p1 a < 0) : ∃ b, a = some b := by
  cases a with
  | none => exact absurd (by decide) h
  | some b => exact ⟨b, rfl⟩
theorem aE_up {V : sVal} {μ : am_M2} {ws : List (Nat → Option Nat)} {pl : Nat → Option Nat} {u v : Int32} (he : evF V none 0 (ws ++ [pl]) = some (leanN V pl, ws.length)) (hu : u = nI (leanN V pl)) (hv : v = nI ws.length) : aE V (am_up (am_up μ 133 26 u) 133 27 v) (ws ++ [pl]) := by
  unfold aE
  rw [he, am_up_eq, am_up_ne (by omega), am_up_eq]
  exact ⟨hu, hv⟩
theorem m_telB (d : Nat) (n : Nat) {V : sVal} {T : sWall} {μ : am_M2} (ν : am_N2) (hV : mVal μ V) (hO : vOk V) (hT : mWall μ 0 T) (hI : sI (vN V) (vP V) T.1 T.2.1) (ws : List (Nat → Option Nat)) (hl : ws.length < 2 ^ 30) (hall : ∀ w, w ∈ ws → pOk V w) (h20 : μ 133 20 = nI ws.length) (hE : aE V μ ws) (o1 : Option Value) (Q : am_R → Prop) (K : ∀ μ1, (∀ i k, ¬ (i = 133 ∧ (k = 26 ∨ k = 27)) → μ1 i k = μ i k) → aE V μ1 (ws ++ [T.2.1]) → am_w (d + 6) (Option.none : Option FieldType) am_g260 118 [some (.ref 133), o1] [] (am_hp n μ1 ν) Q) : am_w (d + 6) (Option.none : Option FieldType) am_g260 84 [some (.ref 133), o1] [] (am_hp n μ ν) (Q) := by
  have h6 := hO.1.1
  have hP8 := hO.1.2.1
  have h8 := sI_8 hO hI
  have hpk := sI_p hI
  have hl1 := leanN_le hO hpk
  have hle := evF_le hO ws none 0 hall (fun b hb => by cases hb)
  have hln : am_run (d + 6) 261 [.ref 133] (am_hp n μ ν) = some (some (.int (nI (leanN V T.2.1))), am_hp n μ ν) := by rw [← qLean_N hO hpk]; exact m_leanNow (d + 3) n ν hV hO hT hI
  have hap := evF_app V T.2.1 ws none 0
  rw [Nat.zero_add] at hap
  refine am_q_aload_n rfl rfl ?_
  refine am_q_gi rfl rfl rfl hE.1 ?_
  refine am_q_if_lt rfl (fun c_88 => ?_) (fun c_88 => ?_)
  · have ha := p1_lt0 (fun b hb => by have := hle b hb; omega) c_88
    rw [ha] at hap
    have hap : evF V none 0 (ws ++ [T.2.1]) = some (leanN V T.2.1, ws.length) := hap
    refine am_q_aload_n rfl rfl ?_
    refine am_q_aload_n rfl rfl ?_
    refine am_q_call rfl rfl (hln) rfl ?_
    refine am_q_pi rfl rfl rfl (Or.inl rfl) ?_
    refine am_q_aload_n rfl rfl ?_
    refine am_q_aload_n rfl rfl ?_
    refine am_q_gi rfl rfl rfl (show _ = nI ws.length from by rw [am_up_ne (by omega)]; exact h20) ?_
    refine am_q_pi rfl rfl rfl (Or.inl rfl) ?_
    first | exact K _ (fun i k h => by rw [am_up_ne (by omega), am_up_ne (by omega)]) (aE_up hap rfl rfl) | exact K _ (fun i k h => rfl) ⟨by rw [hap, hE.1, ha], by rw [hap, hE.2, ha]⟩
  · obtain ⟨b, ha⟩ := p1_nlt0 c_88
    have hb := hle b ha
    rw [ha] at hap
    refine am_q_aload_n rfl rfl ?_
    refine am_q_call rfl rfl (hln) rfl ?_
    refine am_q_aload_n rfl rfl ?_
    refine am_q_gi rfl rfl rfl (show _ = nI b.1 from by rw [hE.1, ha]; rfl) ?_
    refine am_q_igeN rfl (by omega) (by omega) (fun c_99 => ?_) (fun c_99 => ?_)
    · have hap : evF V none 0 (ws ++ [T.2.1]) = some b := by rw [hap]; unfold evS; simp only; rw [if_neg (by omega)]
      first | exact K _ (fun i k h => by rw [am_up_ne (by omega), am_up_ne (by omega)]) (aE_up hap rfl rfl) | exact K _ (fun i k h => rfl) ⟨by rw [hap, hE.1, ha], by rw [hap, hE.2, ha]⟩
    · have hap : evF V none 0 (ws ++ [T.2.1]) = some (leanN V T.2.1, ws.length) := by rw [hap]; unfold evS; simp only; rw [if_pos c_99]
      refine am_q_aload_n rfl rfl ?_
      refine am_q_aload_n rfl rfl ?_
      refine am_q_call rfl rfl (hln) rfl ?_
      refine am_q_pi rfl rfl rfl (Or.inl rfl) ?_
      refine am_q_aload_n rfl rfl ?_
      refine am_q_aload_n rfl rfl ?_
      refine am_q_gi rfl rfl rfl (show _ = nI ws.length from by rw [am_up_ne (by omega)]; exact h20) ?_
      refine am_q_pi rfl rfl rfl (Or.inl rfl) ?_
      first | exact K _ (fun i k h => by rw [am_up_ne (by omega), am_up_ne (by omega)]) (aE_up hap rfl rfl) | exact K _ (fun i k h => rfl) ⟨by rw [hap, hE.1, ha], by rw [hap, hE.2, ha]⟩

def aF (V : sVal) (S : sSeen) (μ : am_M2) (ws : List (Nat → Option Nat)) : Prop := μ 133 22 = nI (ftF V S ws) ∧ ∀ p, p < vP V → ∀ w, w < 42 → μ 149 (42 * p + w) = nI (tlF V S ws p w)
def aFJ (V : sVal) (S : sSeen) (μ : am_M2) (ws vs : List (Nat → Option Nat)) (j : Nat) : Prop := ∀ p, p < vP V → ∀ w, w < 42 → μ 149 (42 * p + w) = nI (if p < j then tlF V S vs p w else tlF V S ws p w)
theorem aFJ_s {V : sVal} {S : sSeen} {μ : am_M2} {ws : List (Nat → Option Nat)} {pl : Nat → Option Nat} {j w0 : Nat} (hb : ftB V S pl = true) (hw : wAt V pl j (vN V) = w0) (h42 : w0 < 42) (h : aFJ V S μ ws (ws ++ [pl]) j) : aFJ V S (am_up μ 149 (42 * j + w0) (nI (tlF V S ws j w0 + 1))) ws (ws ++ [pl]) (j + 1) := fun p hp w hw2 => by
  by_cases e : p = j
  · subst e
    rw [if_pos (by omega), tlF_app]
    by_cases e2 : w = w0
    · subst e2; rw [am_up_eq, if_pos ⟨hb, hw⟩]
    · rw [am_up_ne (by omega), if_neg (fun z => e2 (z.2.symm.trans hw)), h p hp w hw2, if_neg (by omega)]; rfl
  · rw [am_up_ne (by omega), h p hp w hw2]
    by_cases z : p < j
    · rw [if_pos z, if_pos (by omega)]
    · rw [if_neg z, if_neg (by omega)]
theorem m_telC (d : Nat) (n : Nat) {V : sVal} {T : sWall} {μ : am_M2} (ν : am_N2) (hV : mVal μ V) (hO : vOk V) (hT : mWall μ 0 T) (hI : sI (vN V) (vP V) T.1 T.2.1) (ws : List (Nat → Option Nat)) (hl : ws.length < 2 ^ 30) (S : sSeen) (hb : ftB V S T.2.1 = true) (Q : am_R → Prop) (K : ∀ μ1 o1, (∀ i, i ≠ 149 → μ1 i = μ i) → aFJ V S μ1 ws (ws ++ [T.2.1]) (vP V) → am_w (d + 6) (Option.none : Option FieldType) am_g260 170 [some (.ref 133), o1] [] (am_hp n μ1 ν) Q) : ∀ (m j : Nat) (μ1 : am_M2), j + m = vP V → (∀ i, i ≠ 149 → μ1 i = μ i) ∧ aFJ V S μ1 ws (ws ++ [T.2.1]) j → am_w (d + 6) (Option.none : Option FieldType) am_g260 137 [some (.ref 133), some (.int (nI j))] [] (am_hp n μ1 ν) (Q) := by
  intro m
  induction m with
  | zero =>
    intro j μ1 hj hinv
    have h6 := hO.1.1
    have hP8 := hO.1.2.1
    have h8 := sI_8 hO hI
    have hpk := sI_p hI
    have hV1 := mVal_c (fun i hi => hinv.1 i (by omega)) hV
    refine am_q_iload_n rfl rfl ?_
    refine am_q_aload_n rfl rfl ?_
    refine am_q_call rfl rfl (m_places _ _ _ hV1) rfl ?_
    refine am_q_igeN rfl (by omega) (by omega) (fun c_142 => ?_) (fun c_142 => absurd c_142 (by omega))
    have hjj : j = vP V := by omega
    rw [hjj] at hinv ⊢
    exact K _ _ hinv.1 hinv.2
  | succ m ih =>
    intro j μ1 hj hinv
    have h6 := hO.1.1
    have hP8 := hO.1.2.1
    have h8 := sI_8 hO hI
    have hpk := sI_p hI
    have hV1 := mVal_c (fun i hi => hinv.1 i (by omega)) hV
    have hT1 := mWall_c (μ' := μ1) (fun k a b => by rw [hinv.1 145 (by decide)]) hT
    have hwl := wAt_le hO T.2.1 j (vN V) (Nat.le_refl _)
    refine am_q_iload_n rfl rfl ?_
    refine am_q_aload_n rfl rfl ?_
    refine am_q_call rfl rfl (m_places _ _ _ hV1) rfl ?_
    refine am_q_igeN rfl (by omega) (by omega) (fun c_142 => absurd c_142 (by omega)) (fun c_142 => ?_)
    refine am_q_aload_n rfl rfl ?_
    refine am_q_gr rfl rfl rfl ?_
    refine am_q_bipush (v := nI 42) rfl rfl ?_
    refine am_q_iload_n rfl rfl ?_
    refine am_q_imul rfl (pk_mul _ _) ?_
    refine am_q_aload_n rfl rfl ?_
    refine am_q_iload_n rfl rfl ?_
    refine am_q_call rfl rfl (m_weightAt _ n ν hV1 hO hT1 hI j (by omega)) rfl ?_
    refine am_q_iadd rfl (nI_add _ _) ?_
    refine am_q_dup2ir rfl ?_
    refine am_q_iald rfl rfl (am_ix_nI (show 42 * j + wAt V T.2.1 j (vN V) < 336 by omega) (by decide)) (show _ = nI (tlF V S ws j (wAt V T.2.1 j (vN V))) from by rw [hinv.2 j (by omega) _ (by omega), if_neg (by omega)]) ?_
    refine am_q_iconst (v := nI 1) rfl rfl ?_
    refine am_q_iadd rfl (nI_add _ _) ?_
    refine am_q_iast rfl rfl (am_ix_nI (show 42 * j + wAt V T.2.1 j (vN V) < 336 by omega) (by decide)) rfl ?_
    refine am_q_iinc [some _, some _] rfl (c := nI 1) rfl rfl (Nat.le_of_ble_eq_true rfl) (nI_add _ _) rfl ?_
    refine am_q_goto rfl ?_
    exact ih (j + 1) _ (by omega) ⟨fun i hi => by funext k; rw [am_up_ne (by omega), hinv.1 i hi], aFJ_s hb rfl (by omega) hinv.2⟩

theorem m_telC2 (d : Nat) (n : Nat) {V : sVal} {T : sWall} {μ : am_M2} (ν : am_N2) (hV : mVal μ V) (hO : vOk V) (hT : mWall μ 0 T) (hI : sI (vN V) (vP V) T.1 T.2.1) (ws : List (Nat → Option Nat)) (hl : ws.length < 2 ^ 30) (S : sSeen) (hS : mSeen μ 0 S) (hN : nOk V S) (hF : aF V S μ ws) (o1 : Option Value) (Q : am_R → Prop) (K : ∀ μ1 o1, (∀ i k, ¬ (i = 133 ∧ k = 22) → i ≠ 149 → μ1 i k = μ i k) → aF V S μ1 (ws ++ [T.2.1]) → am_w (d + 6) (Option.none : Option FieldType) am_g260 170 [some (.ref 133), o1] [] (am_hp n μ1 ν) Q) : am_w (d + 6) (Option.none : Option FieldType) am_g260 118 [some (.ref 133), o1] [] (am_hp n μ ν) (Q) := by
  have h6 := hO.1.1
  have hP8 := hO.1.2.1
  have h8 := sI_8 hO hI
  have hpk := sI_p hI
  refine am_q_aload_n rfl rfl ?_
  refine am_q_call rfl rfl (m_isAsSeen (d + 2) n ν hV hO hT hI hS hN) rfl ?_
  refine am_q_if_eqB rfl (fun c_122 => ?_) (fun c_122 => ?_)
  · exact K μ o1 (fun i k a b => rfl) ⟨by rw [ftF_app, if_neg (by rw [c_122]; exact Bool.false_ne_true)]; exact hF.1, fun p hp w hw => by rw [tlF_app, if_neg (fun z => by rw [c_122] at z; cases z.1)]; exact hF.2 p hp w hw⟩
  · refine am_q_aload_n rfl rfl ?_
    refine am_q_dupr rfl ?_
    refine am_q_gi rfl rfl rfl hF.1 ?_
    refine am_q_iconst (v := nI 1) rfl rfl ?_
    refine am_q_iadd rfl (nI_add _ _) ?_
    refine am_q_pi rfl rfl rfl (Or.inl rfl) ?_
    refine am_q_iconst (v := nI 0) rfl rfl ?_
    refine am_q_istore_n [some _, some _] rfl (Nat.le_of_ble_eq_true rfl) rfl ?_
    refine m_telC d n ν (mVal_c (fun i hi => by funext k; exact am_up_ne (by omega)) hV) hO (mWall_c (fun k a b => am_up_ne (by omega)) hT) hI ws hl S c_122 Q (fun μ1 o1 hf hj => ?_) (vP V) 0 _ (by omega) ⟨fun i hi => rfl, fun p hp w hw => by rw [if_neg (by omega), am_up_ne (by omega)]; exact hF.2 p hp w hw⟩
    refine K μ1 o1 (fun i k a b => by rw [hf i b, am_up_ne (by omega)]) ⟨?_, fun p hp w hw => ?_⟩
    · rw [hf 133 (by decide), am_up_eq, ftF_app, if_pos c_122]
    · have := hj p hp w hw; rw [if_pos hp] at this; exact this

def aB (V : sVal) (t : Nat) (sw : Option Nat) (μ : am_M2) (ws : List (Nat → Option Nat)) : Prop := μ 133 23 = sn_place sw ∧ (∀ w, sw = some w → w ≤ 30) ∧ ∀ w, sw = some w → μ 133 24 = p1 (bsF V t w none 0 ws) ∧ μ 133 25 = p2 (bsF V t w none 0 ws)
theorem frB_133 {b : Nat} {μ μ' : am_M2} (h : frB b μ μ') : (∀ k, k ≠ 0 → μ' 133 k = μ 133 k) ∧ (∀ i, 146 ≤ i → μ' i = μ i) := ⟨fun k _ => h 133 k (by omega) (by omega) (by omega), fun i hi => by funext k; exact h i k (by omega) (by omega) (by omega)⟩
theorem m_tries2 (d n : Nat) {W : sWall} {μ : am_M2} (ν : am_N2) (hW : mWall μ 0 W) : ∃ μ', am_run (d + 2) 251 [.ref 133] (am_hp n μ ν) = some (none, am_hp n μ' ν) ∧ frB 798 μ μ' ∧ mWall μ' 798 W := by
  have key : ∃ r, am_run (d + 2) 251 [.ref 133] (am_hp n μ ν) = some r ∧ ∃ μ', r = (none, am_hp n μ' ν) ∧ frB 798 μ μ' ∧ mWall μ' 798 W := am_run_wE (k := 251) (d := d + 1) rfl rfl (Nat.le_of_ble_eq_true rfl) [some (.ref 133)] rfl (by
    refine am_q_aload_n rfl rfl ?_
    refine am_q_iconst (v := nI 0) rfl rfl ?_
    refine am_q_sipush (v := nI 798) rfl rfl ?_
    refine am_q_bipush (v := nI 13) rfl rfl ?_
    refine am_q_call rfl rfl (m_copies _ n 0 798 13 μ ν (by decide) (by decide) (by decide)) rfl ?_
    refine am_q_return rfl rfl ?_
    exact ⟨_, rfl, fun i k q r z => mcp_row z, mWall_mcp (by decide) hW⟩)
  obtain ⟨r, h1, μ', h2, h3⟩ := key
  exact ⟨μ', by rw [h1, h2], h3⟩
theorem m_telD (d w : Nat) (n : Nat) {V : sVal} {T : sWall} {μ : am_M2} (ν : am_N2) (hV : mVal μ V) (hO : vOk V) (hT : mWall μ 0 T) (hI : sI (vN V) (vP V) T.1 T.2.1) (ht : T.2.2 < 2 ^ 20) (hw : w ≤ 30) (h23 : μ 133 23 = nI w) (Q : am_R → Prop) (K : ∀ μ1 o1, frB 798 μ μ1 → mWall μ1 798 (goW V T w) → am_w (d + 6) (Option.none : Option FieldType) am_g260 205 [some (.ref 133), o1] [] (am_hp n μ1 ν) Q) : ∀ (m j : Nat) (μ1 : am_M2), j + m = w → frB 798 μ μ1 ∧ mWall μ1 798 (goW V T j) → am_w (d + 6) (Option.none : Option FieldType) am_g260 183 [some (.ref 133), some (.int (nI j))] [] (am_hp n μ1 ν) (Q) := by
  intro m
  induction m with
  | zero =>
    intro j μ1 hj hinv
    have h23a : μ1 133 23 = nI w := by rw [(frB_133 hinv.1).1 23 (by decide)]; exact h23
    refine am_q_iload_n rfl rfl ?_
    refine am_q_aload_n rfl rfl ?_
    refine am_q_gi rfl rfl rfl h23a ?_
    refine am_q_igeN rfl (by omega) (by omega) (fun c_188 => ?_) (fun c_188 => absurd c_188 (by omega))
    have hjj : j = w := by omega
    rw [hjj] at hinv ⊢
    exact K _ _ hinv.1 hinv.2
  | succ m ih =>
    intro j μ1 hj hinv
    have h6 := hO.1.1
    have hP8 := hO.1.2.1
    have h8 := sI_8 hO hI
    have hpk := sI_p hI
    have h23a : μ1 133 23 = nI w := by rw [(frB_133 hinv.1).1 23 (by decide)]; exact h23
    have hV1 := mVal_B hinv.1 hV
    have htj := goW_t V T j
    obtain ⟨μ2, hc2, hW2, hf2⟩ := m_goes d n ν hV1 hO 798 (by decide) hinv.2 (goW_I hI j) (by omega)
    rw [← goW_s] at hW2
    refine am_q_iload_n rfl rfl ?_
    refine am_q_aload_n rfl rfl ?_
    refine am_q_gi rfl rfl rfl h23a ?_
    refine am_q_igeN rfl (by omega) (by omega) (fun c_188 => absurd c_188 (by omega)) (fun c_188 => ?_)
    refine am_q_aload_n rfl rfl ?_
    refine am_q_sipush (v := nI 798) rfl rfl ?_
    refine am_q_call rfl rfl (hc2) rfl ?_
    refine am_q_popi rfl ?_
    refine am_q_iinc [some _, some _] rfl (c := nI 1) rfl rfl (Nat.le_of_ble_eq_true rfl) (nI_add _ _) rfl ?_
    refine am_q_goto rfl ?_
    exact ih (j + 1) _ (by omega) ⟨frB_tr hinv.1 hf2, hW2⟩

theorem m_telD2 (d w : Nat) (n : Nat) {V : sVal} {T : sWall} {μ : am_M2} (ν : am_N2) (hV : mVal μ V) (hO : vOk V) (hT : mWall μ 0 T) (hI : sI (vN V) (vP V) T.1 T.2.1) (ht : T.2.2 < 2 ^ 20) (hw : w ≤ 30) (ws : List (Nat → Option Nat)) (hl : ws.length < 2 ^ 30) (h20 : μ 133 20 = nI ws.length) (hB : μ 133 24 = p1 (bsF V T.2.2 w none 0 ws) ∧ μ 133 25 = p2 (bsF V T.2.2 w none 0 ws)) (h798 : mWall μ 798 (goW V T w)) (o1 : Option Value) (Q : am_R → Prop) (K : ∀ μ1 o1, (∀ i k, i ≠ 143 → i ≠ 144 → (i = 145 → k < 798 ∨ 811 ≤ k) → ¬ (i = 133 ∧ (k = 24 ∨ k = 25)) → μ1 i k = μ i k) → μ1 133 24 = p1 (bsF V T.2.2 w none 0 (ws ++ [T.2.1])) ∧ μ1 133 25 = p2 (bsF V T.2.2 w none 0 (ws ++ [T.2.1])) → am_w (d + 6) (Option.none : Option FieldType) am_g260 238 [some (.ref 133), o1] [] (am_hp n μ1 ν) Q) : am_w (d + 6) (Option.none : Option FieldType) am_g260 205 [some (.ref 133), o1] [] (am_hp n μ ν) (Q) := by
  have h6 := hO.1.1
  have hP8 := hO.1.2.1
  have h8 := sI_8 hO hI
  have hpk := sI_p hI
  have hc3 := m_who (d + 4) n ν hV hO 798 (by decide) h798 (goW_I hI w) 2 (by decide)
  rw [later_m hI h6] at hc3
  have h64 : sLater V T w < 64 := sn_64 h6
  have hst : sn_bc (sLater V T w) = stB V T.2.2 w T.2.1 := rfl
  have hs6 := stB_6 h6 T.2.2 w T.2.1
  have hle := bsF_le h6 T.2.2 w ws none 0 (fun b hb => by cases hb)
  have hap := bsF_app V T.2.2 w T.2.1 ws none 0
  rw [Nat.zero_add] at hap
  refine am_q_aload_n rfl rfl ?_
  refine am_q_sipush (v := nI 798) rfl rfl ?_
  refine am_q_iconst (v := nI 2) rfl rfl ?_
  refine am_q_call rfl rfl (hc3) rfl ?_
  refine am_q_call rfl rfl (m_bits _ _ h64 _) rfl ?_
  rw [hst]
  refine am_q_istore_n [some _, some _] rfl (Nat.le_of_ble_eq_true rfl) rfl ?_
  refine am_q_iload_n rfl rfl ?_
  refine am_q_aload_n rfl rfl ?_
  refine am_q_gi rfl rfl rfl hB.1 ?_
  refine am_q_icmp_le rfl (fun c_222 => ?_) (fun c_222 => ?_)
  · obtain ⟨b, hb1, hb2⟩ := (p1_lt (n := stB V T.2.2 w T.2.1) (by omega) (fun b hb => by have := hle b hb; omega)).mp c_222
    rw [bsS_n ⟨b, hb1, hb2⟩] at hap
    first | exact K _ _ (fun i k a b c e => rfl) ⟨by rw [hap]; exact hB.1, by rw [hap]; exact hB.2⟩ | exact K _ _ (fun i k a b c e => by rw [am_up_ne (by omega), am_up_ne (by omega)]) ⟨by rw [hap, am_up_ne (by omega), am_up_eq]; rfl, by rw [hap, am_up_eq]; rfl⟩
  · rw [bsS_y (fun z => c_222 ((p1_lt (by omega) (fun b hb => by have := hle b hb; omega)).mpr z))] at hap
    refine am_q_aload_n rfl rfl ?_
    refine am_q_iload_n rfl rfl ?_
    refine am_q_pi rfl rfl rfl (Or.inl rfl) ?_
    refine am_q_aload_n rfl rfl ?_
    refine am_q_aload_n rfl rfl ?_
    refine am_q_gi rfl rfl rfl (show _ = nI ws.length from by rw [am_up_ne (by omega)]; exact h20) ?_
    refine am_q_pi rfl rfl rfl (Or.inl rfl) ?_
    first | exact K _ _ (fun i k a b c e => rfl) ⟨by rw [hap]; exact hB.1, by rw [hap]; exact hB.2⟩ | exact K _ _ (fun i k a b c e => by rw [am_up_ne (by omega), am_up_ne (by omega)]) ⟨by rw [hap, am_up_ne (by omega), am_up_eq]; rfl, by rw [hap, am_up_eq]; rfl⟩
