def mAcc (V : sVal) (S : sSeen) (t : Nat) (sw : Option Nat) (wn : Int32) (μ : am_M2) (ws : List (Nat → Option Nat)) : Prop := (μ 133 20 = nI ws.length ∧ μ 133 21 = wn) ∧ aTW V wn μ ws ∧ aE V μ ws ∧ aF V S μ ws ∧ aB V t sw μ ws
theorem aTW_c {V : sVal} {wn : Int32} {μ μ' : am_M2} {ws : List (Nat → Option Nat)} (h1 : ∀ k, μ' 147 k = μ 147 k) (h2 : ∀ k, μ' 148 k = μ 148 k) (h : aTW V wn μ ws) : aTW V wn μ' ws := fun s hs => ⟨fun p hp => by rw [h1]; exact (h s hs).1 p hp, fun k hk hn => by rw [h2]; exact (h s hs).2 k hk hn⟩
theorem aE_c {V : sVal} {μ μ' : am_M2} {ws : List (Nat → Option Nat)} (h1 : μ' 133 26 = μ 133 26) (h2 : μ' 133 27 = μ 133 27) (h : aE V μ ws) : aE V μ' ws := ⟨h1.trans h.1, h2.trans h.2⟩
theorem aF_c {V : sVal} {S : sSeen} {μ μ' : am_M2} {ws : List (Nat → Option Nat)} (h1 : μ' 133 22 = μ 133 22) (h2 : ∀ k, μ' 149 k = μ 149 k) (h : aF V S μ ws) : aF V S μ' ws := ⟨h1.trans h.1, fun p hp w hw => by rw [h2]; exact h.2 p hp w hw⟩
theorem aB_c {V : sVal} {t : Nat} {sw : Option Nat} {μ μ' : am_M2} {ws : List (Nat → Option Nat)} (h : ∀ k, k = 23 ∨ k = 24 ∨ k = 25 → μ' 133 k = μ 133 k) (hB : aB V t sw μ ws) : aB V t sw μ' ws := ⟨(h 23 (by omega)).trans hB.1, hB.2.1, fun w hw => ⟨(h 24 (by omega)).trans (hB.2.2 w hw).1, (h 25 (by omega)).trans (hB.2.2 w hw).2⟩⟩
theorem mAcc_c {V : sVal} {S : sSeen} {t : Nat} {sw : Option Nat} {wn : Int32} {μ μ' : am_M2} {ws : List (Nat → Option Nat)} (h : ∀ i k, (i = 133 ∧ 20 ≤ k) ∨ i = 147 ∨ i = 148 ∨ i = 149 → μ' i k = μ i k) (hA : mAcc V S t sw wn μ ws) : mAcc V S t sw wn μ' ws :=
  ⟨⟨(h _ _ (by omega)).trans hA.1.1, (h _ _ (by omega)).trans hA.1.2⟩, aTW_c (fun k => h _ _ (by omega)) (fun k => h _ _ (by omega)) hA.2.1, aE_c (h _ _ (by omega)) (h _ _ (by omega)) hA.2.2.1, aF_c (h _ _ (by omega)) (fun k => h _ _ (by omega)) hA.2.2.2.1, aB_c (fun k hk => h _ _ (by omega)) hA.2.2.2.2⟩
theorem m_telE (d n L : Nat) (μ : am_M2) (ν : am_N2) (h20 : μ 133 20 = nI L) (o1 : Option Value) (Q : am_R → Prop) (hQ : Q (none, am_hp n (am_up μ 133 20 (nI (L + 1))) ν)) : am_w (d + 6) (Option.none : Option FieldType) am_g260 238 [some (.ref 133), o1] [] (am_hp n μ ν) (Q) := by
  refine am_q_aload_n rfl rfl ?_
  refine am_q_dupr rfl ?_
  refine am_q_gi rfl rfl rfl h20 ?_
  refine am_q_iconst (v := nI 1) rfl rfl ?_
  refine am_q_iadd rfl (nI_add _ _) ?_
  refine am_q_pi rfl rfl rfl (Or.inl rfl) ?_
  refine am_q_return rfl rfl ?_
  exact hQ

theorem m_telD0 (d n : Nat) (μ : am_M2) (ν : am_N2) (h23 : μ 133 23 = -1) (o1 : Option Value) (Q : am_R → Prop) (K : am_w (d + 6) (Option.none : Option FieldType) am_g260 238 [some (.ref 133), o1] [] (am_hp n μ ν) Q) : am_w (d + 6) (Option.none : Option FieldType) am_g260 170 [some (.ref 133), o1] [] (am_hp n μ ν) (Q) := by
  refine am_q_aload_n rfl rfl ?_
  refine am_q_gi rfl rfl rfl h23 ?_
  refine am_q_if_lt rfl (fun c_174 => ?_) (fun c_174 => absurd c_174 (by decide))
  exact K

theorem m_telD1 (d w : Nat) (n : Nat) {V : sVal} {T : sWall} {μ : am_M2} (ν : am_N2) (hV : mVal μ V) (hO : vOk V) (hT : mWall μ 0 T) (hI : sI (vN V) (vP V) T.1 T.2.1) (ht : T.2.2 < 2 ^ 20) (hw : w ≤ 30) (h23 : μ 133 23 = nI w) (ws : List (Nat → Option Nat)) (hl : ws.length < 2 ^ 30) (h20 : μ 133 20 = nI ws.length) (hB : μ 133 24 = p1 (bsF V T.2.2 w none 0 ws) ∧ μ 133 25 = p2 (bsF V T.2.2 w none 0 ws)) (o1 : Option Value) (Q : am_R → Prop) (K : ∀ μ1 o1, (∀ i k, i ≠ 143 → i ≠ 144 → (i = 145 → k < 798 ∨ 811 ≤ k) → ¬ (i = 133 ∧ (k = 24 ∨ k = 25)) → μ1 i k = μ i k) → μ1 133 24 = p1 (bsF V T.2.2 w none 0 (ws ++ [T.2.1])) ∧ μ1 133 25 = p2 (bsF V T.2.2 w none 0 (ws ++ [T.2.1])) → am_w (d + 6) (Option.none : Option FieldType) am_g260 238 [some (.ref 133), o1] [] (am_hp n μ1 ν) Q) : am_w (d + 6) (Option.none : Option FieldType) am_g260 170 [some (.ref 133), o1] [] (am_hp n μ ν) (Q) := by
  refine am_q_aload_n rfl rfl ?_
  refine am_q_gi rfl rfl rfl h23 ?_
  refine am_q_zltN rfl (by omega) (fun c_174 => absurd c_174 (by omega)) (fun c_174 => ?_)
  refine am_q_aload_n rfl rfl ?_
  obtain ⟨μ2, hc2, hf2, hW2⟩ := m_tries2 (d + 4) n ν hT
  have e2 := frB_133 hf2
  refine am_q_call rfl rfl (hc2) rfl ?_
  refine am_q_iconst (v := nI 0) rfl rfl ?_
  refine am_q_istore_n [some _, some _] rfl (Nat.le_of_ble_eq_true rfl) rfl ?_
  refine m_telD d w n ν (mVal_B hf2 hV) hO (mWall_B hf2 (by decide) hT) hI ht hw (by rw [e2.1 23 (by decide)]; exact h23) Q (fun μ3 o3 hf3 hW3 => ?_) w 0 _ (by omega) ⟨frB_rf 798 μ2, hW2⟩
  have hf := frB_tr hf2 hf3
  have e3 := frB_133 hf
  refine m_telD2 d w n ν (mVal_B hf hV) hO (mWall_B hf (by decide) hT) hI ht hw ws hl (by rw [e3.1 20 (by decide)]; exact h20) (by rw [e3.1 24 (by decide), e3.1 25 (by decide)]; exact hB) hW3 o3 Q (fun μ4 o4 hf4 hB4 => ?_)
  exact K μ4 o4 (fun i k a b c e => (hf4 i k a b c e).trans (hf i k a b c)) hB4

/-- StoneSecretsModel.tells()V -/
theorem m_tells (d : Nat) (n : Nat) {V : sVal} {T : sWall} {S : sSeen} {μ : am_M2} (ν : am_N2) (hV : mVal μ V) (hO : vOk V) (hT : mWall μ 0 T) (hI : sI (vN V) (vP V) T.1 T.2.1) (ht : T.2.2 < 2 ^ 20) (hS : mSeen μ 0 S) (hN : nOk V S) {sw : Option Nat} {wn : Int32} {ws : List (Nat → Option Nat)} (hl : ws.length < 2 ^ 30) (hall : ∀ w, w ∈ ws → pOk V w) (hA : mAcc V S T.2.2 sw wn μ ws) : ∃ (μ' : am_M2), am_run (d + 7) 260 [.ref 133] (am_hp n μ ν) = some (none, am_hp n μ' ν) ∧ mAcc V S T.2.2 sw wn μ' (ws ++ [T.2.1]) ∧ fr μ μ' := by
  obtain ⟨⟨a1, a2⟩, aT, a5, a6, a7⟩ := hA
  have key : ∃ r, am_run (d + 7) 260 [.ref 133] (am_hp n μ ν) = some r ∧ ∃ (μ' : am_M2), r = (none, am_hp n μ' ν) ∧ mAcc V S T.2.2 sw wn μ' (ws ++ [T.2.1]) ∧ fr μ μ' := am_run_wE (k := 260) (d := d + 6) rfl rfl (Nat.le_of_ble_eq_true rfl) [some (.ref 133), none] rfl (by
    refine am_q_iconst (v := nI 0) rfl rfl ?_
    refine am_q_istore_n [some _, some _] rfl (Nat.le_of_ble_eq_true rfl) rfl ?_
    refine m_telA d n ν hV hO hT hI ws hl wn a1 a2 _ (fun μ1 o1 f1 t1 => ?_) (vN V) 0 μ (by omega) ⟨fun i _ _ => rfl, fun s hs => ⟨fun z => by omega, fun _ => aT s hs⟩⟩
    have g1 : ∀ i k, i ≠ 147 → i ≠ 148 → μ1 i k = μ i k := fun i k a b => by rw [f1 i a b]
    refine m_telB d n ν (mVal_c (fun i hi => f1 i (by omega) (by omega)) hV) hO (mWall_c (fun k _ _ => g1 _ _ (by decide) (by decide)) hT) hI ws hl hall ((g1 _ _ (by decide) (by decide)).trans a1) (aE_c (g1 _ _ (by decide) (by decide)) (g1 _ _ (by decide) (by decide)) a5) o1 _ (fun μ2 f2 t2 => ?_)
    have g2 : ∀ i k, ¬ (i = 133 ∧ (k = 26 ∨ k = 27)) → i ≠ 147 → i ≠ 148 → μ2 i k = μ i k := fun i k a b c => (f2 i k a).trans (g1 i k b c)
    refine m_telC2 d n ν (mVal_c (fun i hi => by funext k; exact g2 i k (by omega) (by omega) (by omega)) hV) hO (mWall_c (fun k _ _ => g2 _ _ (by omega) (by decide) (by decide)) hT) hI ws hl S (mSeen_c (fun k _ _ => g2 _ _ (by omega) (by decide) (by decide)) hS) hN (aF_c (g2 _ _ (by omega) (by decide) (by decide)) (fun k => g2 _ _ (by omega) (by decide) (by decide)) a6) o1 _ (fun μ3 o3 f3 t3 => ?_)
    have g3 : ∀ i k, ¬ (i = 133 ∧ (k = 26 ∨ k = 27 ∨ k = 22)) → i ≠ 147 → i ≠ 148 → i ≠ 149 → μ3 i k = μ i k := fun i k a b c e => (f3 i k (by omega) e).trans (g2 i k (by omega) b c)
    have h20 : μ3 133 20 = nI ws.length := (g3 _ _ (by omega) (by decide) (by decide) (by decide)).trans a1
    have hB3 := aB_c (V := V) (t := T.2.2) (sw := sw) (μ' := μ3) (ws := ws) (fun k hk => g3 133 k (by omega) (by decide) (by decide) (by decide)) a7
    have fin : ∀ μ4 o4, (∀ i k, i ≠ 143 → i ≠ 144 → (i = 145 → k < 798 ∨ 811 ≤ k) → ¬ (i = 133 ∧ (k = 24 ∨ k = 25)) → μ4 i k = μ3 i k) → aB V T.2.2 sw μ4 (ws ++ [T.2.1]) → am_w (d + 6) (Option.none : Option FieldType) am_g260 238 [some (.ref 133), o4] [] (am_hp n μ4 ν) (fun r => ∃ (μ' : am_M2), r = (none, am_hp n μ' ν) ∧ mAcc V S T.2.2 sw wn μ' (ws ++ [T.2.1]) ∧ fr μ μ') := fun μ4 o4 f4 t4 => by
      refine m_telE d n ws.length μ4 ν ((f4 133 20 (by decide) (by decide) (by omega) (by omega)).trans h20) o4 _ ⟨_, rfl, ⟨⟨?_, ?_⟩, aTW_c (fun k => ?_) (fun k => ?_) t1, aE_c ?_ ?_ t2, aF_c ?_ (fun k => ?_) t3, aB_c (fun k hk => am_up_ne (by omega)) t4⟩, fun i k q => ?_⟩
      · rw [am_up_eq, List.length_append]; rfl
      · rw [am_up_ne (by omega), f4 _ _ (by decide) (by decide) (by omega) (by omega), g3 _ _ (by omega) (by decide) (by decide) (by decide)]; exact a2
      · rw [am_up_ne (by omega), f4 _ _ (by decide) (by decide) (by omega) (by omega), f3 _ _ (by omega) (by decide), f2 _ _ (by omega)]
      · rw [am_up_ne (by omega), f4 _ _ (by decide) (by decide) (by omega) (by omega), f3 _ _ (by omega) (by decide), f2 _ _ (by omega)]
      · rw [am_up_ne (by omega), f4 _ _ (by decide) (by decide) (by omega) (by omega), f3 _ _ (by omega) (by decide)]
      · rw [am_up_ne (by omega), f4 _ _ (by decide) (by decide) (by omega) (by omega), f3 _ _ (by omega) (by decide)]
      · rw [am_up_ne (by omega), f4 _ _ (by decide) (by decide) (by omega) (by omega)]
      · rw [am_up_ne (by omega), f4 _ _ (by decide) (by decide) (by omega) (by omega)]
      · rw [am_up_ne (by omega), f4 _ _ (by omega) (by omega) (by omega) (by omega), g3 _ _ (by omega) (by omega) (by omega) (by omega)]
    cases hsw : sw with
    | none =>
      rw [hsw] at hB3 fin
      exact m_telD0 d n μ3 ν hB3.1 o3 _ (fin μ3 o3 (fun i k _ _ _ _ => rfl) ⟨hB3.1, fun w hw => (by cases hw), fun w hw => (by cases hw)⟩)
    | some w =>
      rw [hsw] at hB3 fin
      refine m_telD1 d w n ν (mVal_c (fun i hi => by funext k; exact g3 i k (by omega) (by omega) (by omega) (by omega)) hV) hO (mWall_c (fun k _ _ => g3 _ _ (by omega) (by decide) (by decide) (by decide)) hT) hI ht (hB3.2.1 w rfl) hB3.1 ws hl h20 (hB3.2.2 w rfl) o3 _ (fun μ4 o4 f4 t4 => ?_)
      exact fin μ4 o4 f4 ⟨(f4 133 23 (by decide) (by decide) (by omega) (by omega)).trans hB3.1, hB3.2.1, fun w2 hw2 => by cases hw2; exact t4⟩)
  obtain ⟨r, h1, μ', h2, h3⟩ := key
  exact ⟨μ', by rw [h1, h2], h3⟩
