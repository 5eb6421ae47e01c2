/-- a Seen copied -/
def am_sn (μ : am_M2) (c : Nat) (a b : Nat → Int32) (u x : Int32) : am_M2 := am_up (am_up (am_rw (am_rw μ (c + 1) a) (c + 2) b) c 2 u) c 3 x
def am8 (f g : Nat → Int32) : Nat → Int32 := fun k => if k < 8 then f k else g k
theorem am_sn_row {μ : am_M2} {c i : Nat} {a b : Nat → Int32} {u x : Int32} (h : i < c ∨ c + 3 ≤ i) : am_sn μ c a b u x i = μ i := by
  funext k
  unfold am_sn am_up am_rw
  rw [if_neg (by omega), if_neg (by omega), if_neg (by omega), if_neg (by omega)]
theorem am_sn_0 {μ : am_M2} {c : Nat} {a b : Nat → Int32} {u x : Int32} : am_sn μ c a b u x c 3 = x ∧ am_sn μ c a b u x c 2 = u ∧ (∀ k, am_sn μ c a b u x (c + 1) k = a k) ∧ ∀ k, am_sn μ c a b u x (c + 2) k = b k := by
  unfold am_sn am_up am_rw
  refine ⟨by simp, by simp, fun k => by simp, fun k => by simp⟩
/-- StoneSecrets$Seen.copyFrom(LStoneSecrets$Seen;)V -/
theorem s_scopy (d : Nat) (n w v : Nat) (μ : am_M2) (ν : am_N2) (hw : isSn n w) (hv : isSn n v) (h3 : w + 3 ≤ v ∨ v + 3 ≤ w) : am_run (d + 1) 172 [.ref w, .ref v] (am_hp n μ ν) = some (none, am_hp n (am_sn μ w (am8 (μ (v + 1)) (μ (w + 1))) (am8 (μ (v + 2)) (μ (w + 2))) (μ v 2) (μ v 3)) ν) := by
  refine am_r172 (d := d + 0) (Nat.le_of_ble_eq_true rfl) [some (.ref w), some (.ref v)] rfl ?_
  refine am_q_aload_n rfl rfl ?_
  refine am_q_gr rfl hv.1 rfl ?_
  refine am_q_iconst (v := nI 0) rfl rfl ?_
  refine am_q_aload_n rfl rfl ?_
  refine am_q_gr rfl hw.1 rfl ?_
  refine am_q_iconst (v := nI 0) rfl rfl ?_
  refine am_q_bipush (v := nI 8) rfl rfl ?_
  refine am_q_copy rfl hv.2.1 hw.2.1 (by decide) (by decide) (by decide) (by omega) (Nat.le_of_ble_eq_true rfl) ?_
  refine am_q_aload_n rfl rfl ?_
  refine am_q_gr rfl hv.1 rfl ?_
  refine am_q_iconst (v := nI 0) rfl rfl ?_
  refine am_q_aload_n rfl rfl ?_
  refine am_q_gr rfl hw.1 rfl ?_
  refine am_q_iconst (v := nI 0) rfl rfl ?_
  refine am_q_bipush (v := nI 8) rfl rfl ?_
  refine am_q_copy rfl hv.2.2 hw.2.2 (by decide) (by decide) (by decide) (by omega) (Nat.le_of_ble_eq_true rfl) ?_
  refine am_q_aload_n rfl rfl ?_
  refine am_q_aload_n rfl rfl ?_
  refine am_q_gi rfl hv.1 rfl rfl ?_
  refine am_q_pi rfl hw.1 rfl (Or.inl rfl) ?_
  refine am_q_aload_n rfl rfl ?_
  refine am_q_aload_n rfl rfl ?_
  refine am_q_gi rfl hv.1 rfl rfl ?_
  refine am_q_pi rfl hw.1 rfl (Or.inl rfl) ?_
  refine am_q_return rfl rfl ?_
  have n1 : ¬ v = w := by omega
  have n2 : ¬ v = w + 1 := by omega
  have n3 : ¬ v = w + 2 := by omega
  have n4 : ¬ v + 2 = w + 1 := by omega
  have n5 : ¬ w + 2 = w + 1 := by omega
  refine congrArg (fun z => (none, am_hp n z ν)) ?_
  funext i k
  unfold am_sn am8 am_rw am_up
  simp [n1, n2, n3, n4, n5]

theorem s_scopyX (d n w v : Nat) {μ : am_M2} (ν : am_N2) (hw : isSn n w) (hv : isSn n v) (h3 : w + 3 ≤ v ∨ v + 3 ≤ w) {S : sSeen} (hS : xSeen μ v S) : ∃ μ', am_run (d + 1) 172 [.ref w, .ref v] (am_hp n μ ν) = some (none, am_hp n μ' ν) ∧ xSeen μ' w S ∧ ∀ i, i < w ∨ w + 3 ≤ i → μ' i = μ i := by
  obtain ⟨h1, h2, h4, u, h5, h6, h7⟩ := hS
  refine ⟨_, s_scopy d n w v μ ν hw hv h3, ?_, fun i hi => am_sn_row hi⟩
  obtain ⟨q1, q2, q3, q4⟩ := am_sn_0 (μ := μ) (c := w) (a := am8 (μ (v + 1)) (μ (w + 1))) (b := am8 (μ (v + 2)) (μ (w + 2))) (u := μ v 2) (x := μ v 3)
  refine ⟨q1.trans h1, h2, fun i hi => ⟨(q3 i).trans ?_, (q4 i).trans ?_⟩, u, h5, q2.trans h6, h7⟩
  · rw [am8, if_pos (by omega)]; exact (h4 i hi).1
  · rw [am8, if_pos (by omega)]; exact (h4 i hi).2
theorem sMk_or {K : Nat → Option (sWall × sSeen)} {m : Nat} (hm : m < 4) (x : sWall × sSeen) : sBits (fun m => (K m).isSome) 4 ||| 2 ^ m = sBits (fun i => (fup K m (some x) i).isSome) 4 := by
  apply Nat.eq_of_testBit_eq
  intro i
  rw [Nat.testBit_or, sBits_tb, sBits_tb, Nat.testBit_two_pow]
  unfold fup
  by_cases h : i = m
  · subst h; simp [hm]
  · simp [h, show ¬ m = i from fun e => h e.symm]
/-- StoneSecrets$Past.layMark(ILStoneSecrets$Wall;LStoneSecrets$Seen;)V -/
theorem s_layMark (d : Nat) (m : Nat) (hm : m < 4) (n : Nat) {V : sVal} {W : sWall} {U : List sWall} {K : Nat → Option (sWall × sSeen)} {S : sSeen} {Y : sYear} {μ : am_M2} (ν : am_N2) (hR : xR μ V W U K S Y) (hO : vOk V) (hI : sI (vN V) (vP V) W.1 W.2.1) (ht : W.2.2 < 2 ^ 20) : ∃ (μ' : am_M2), am_run (d + 2) 173 [.ref 41, .int (nI m), .ref 35, .ref 117] (am_hp n μ ν) = some (none, am_hp n μ' ν) ∧ xR μ' V W U (fup K m (some (W, S))) S Y ∧ frX μ μ' := by
  obtain ⟨hV, hW, hU, hK, hS, hY⟩ := hR
  have h6 := hO.1.1
  have hP8 := hO.1.2.1
  have h8 := sI_8 hO hI
  obtain ⟨a, b, hc, ha, hb⟩ := s_wcopyX d n (93 + 6 * m) 35 ν (isWl_mark n m hm) (isWl_35 n) (by omega) hW
  have hr1 := fun i (hi : i < 93 + 6 * m ∨ 93 + 6 * m + 3 ≤ i) => am_wl_row (μ := μ) (a := a) (b := b) (x := nI W.2.2) hi
  obtain ⟨μ2, hc2, hs2, hr2⟩ := s_scopyX d n (96 + 6 * m) 117 ν (isSn_mark n m hm) (isSn_117 n) (by omega) (xSeen_rows (fun i p q => hr1 i (by omega)) hS)
  have key : ∃ r, am_run (d + 2) 173 [.ref 41, .int (nI m), .ref 35, .ref 117] (am_hp n μ ν) = some r ∧ ∃ (μ' : am_M2), r = (none, am_hp n μ' ν) ∧ xR μ' V W U (fup K m (some (W, S))) S Y ∧ frX μ μ' := am_run_wE (k := 173) (d := d + 1) rfl rfl (Nat.le_of_ble_eq_true rfl) [some (.ref 41), some (.int (nI m)), some (.ref 35), some (.ref 117)] rfl (by
    refine am_q_aload_n rfl rfl ?_
    refine am_q_gr rfl rfl rfl ?_
    refine am_q_iload_n rfl rfl ?_
    refine am_q_aald rfl rfl (by first | exact am_ix_nI (by omega) (by omega) | rfl) rfl ?_
    refine am_q_aload_n rfl rfl ?_
    refine am_q_callV1 rfl (isWl_mark n m hm).1 (hc) (Nat.le_of_ble_eq_true rfl) rfl ?_
    refine am_q_aload_n rfl rfl ?_
    refine am_q_gr rfl rfl rfl ?_
    refine am_q_iload_n rfl rfl ?_
    refine am_q_aald rfl rfl (by first | exact am_ix_nI (by omega) (by omega) | rfl) rfl ?_
    refine am_q_aload_n rfl rfl ?_
    refine am_q_callV1 rfl (isSn_mark n m hm).1 (hc2) (Nat.le_of_ble_eq_true rfl) rfl ?_
    refine am_q_aload_n rfl rfl ?_
    refine am_q_dupr rfl ?_
    refine am_q_gi rfl rfl rfl ((congrFun ((hr2 41 (by omega)).trans (hr1 41 (by omega))) 3).trans hK.1) ?_
    refine am_q_iconst (v := nI 1) rfl rfl ?_
    refine am_q_iload_n rfl rfl ?_
    refine am_q_ishl rfl (sn_shl1 (by omega)) ?_
    refine am_q_ior rfl (sn_or _ _) ?_
    rw [sMk_or hm (W, S)]
    refine am_q_pi rfl rfl rfl (Or.inl rfl) ?_
    refine am_q_return rfl rfl ?_
    have hr : ∀ i, i < 93 + 6 * m ∨ 93 + 6 * m + 6 ≤ i → μ2 i = μ i := fun i hi => (hr2 i (by omega)).trans (hr1 i (by omega))
    have hr3 : ∀ i, i ≠ 41 → am_up μ2 41 3 (nI (sBits (fun i => (fup K m (some (W, S)) i).isSome) 4)) i = μ2 i := fun i hi => by funext k; unfold am_up; rw [if_neg hi]
    have h41 : ∀ k, k ≠ 3 → am_up μ2 41 3 (nI (sBits (fun i => (fup K m (some (W, S)) i).isSome) 4)) 41 k = μ 41 k := fun k hk => by unfold am_up; rw [if_pos rfl, if_neg hk, hr 41 (by omega)]
    have hrr : ∀ i, i ≠ 41 → i < 93 + 6 * m ∨ 93 + 6 * m + 6 ≤ i → am_up μ2 41 3 (nI (sBits (fun i => (fup K m (some (W, S)) i).isSome) 4)) i = μ i := fun i h1 h2 => (hr3 i h1).trans (hr i h2)
    refine ⟨_, rfl, ⟨xVal_rows (fun i q1 q2 => hrr i (by omega) (by omega)) hV, xW_rows (fun i q1 q2 => hrr i (by omega) (by omega)) hW, xUndo_rows ⟨h41 4 (by decide), h41 5 (by decide)⟩ (fun i q1 q2 => hrr i (by omega) (by omega)) hU, ⟨by unfold am_up; rw [if_pos rfl, if_pos rfl], fun k hk w s e => ?_⟩, xSeen_rows (fun i q1 q2 => hrr i (by omega) (by omega)) hS, xYear_rows (fun i q1 q2 => hrr i (by omega) (by omega)) hY⟩, fun i q => hrr i (by omega) (by omega)⟩
    by_cases z : k = m
    · subst z
      unfold fup at e
      rw [if_pos rfl] at e
      cases e
      exact ⟨xW_rows (fun i q1 q2 => (hr3 i (by omega)).trans (hr2 i (by omega))) (xW_wl ha hb), xSeen_rows (fun i q1 q2 => hr3 i (by omega)) hs2⟩
    · unfold fup at e
      rw [if_neg z] at e
      have := hK.2 k hk w s e
      exact ⟨xW_rows (fun i q1 q2 => hrr i (by omega) (by omega)) this.1, xSeen_rows (fun i q1 q2 => hrr i (by omega) (by omega)) this.2⟩)
  obtain ⟨r, h1, μ', h2, h3⟩ := key
  exact ⟨μ', by rw [h1, h2], h3⟩

theorem s_goBack0 (d : Nat) (m : Nat) (hm : m < 4) (n : Nat) {V : sVal} {W : sWall} {U : List sWall} {K : Nat → Option (sWall × sSeen)} {S : sSeen} {Y : sYear} {μ : am_M2} (ν : am_N2) (hR : xR μ V W U K S Y) (hO : vOk V) (hI : sI (vN V) (vP V) W.1 W.2.1) (ht : W.2.2 < 2 ^ 20) (hz : (K m).isSome = false) : ∃ (u : Unit), am_run (d + 2) 171 [.ref 41, .int (nI m), .ref 35, .ref 117] (am_hp n μ ν) = some (some (.int (sB false)), am_hp n μ ν) := by
  obtain ⟨hV, hW, hU, hK, hS, hY⟩ := hR
  have h6 := hO.1.1
  have hP8 := hO.1.2.1
  have h8 := sI_8 hO hI
  have key : ∃ r, am_run (d + 2) 171 [.ref 41, .int (nI m), .ref 35, .ref 117] (am_hp n μ ν) = some r ∧ ∃ (u : Unit), r = (some (.int (sB false)), am_hp n μ ν) := am_run_wE (k := 171) (d := d + 1) rfl rfl (Nat.le_of_ble_eq_true rfl) [some (.ref 41), some (.int (nI m)), some (.ref 35), some (.ref 117)] rfl (by
    refine am_q_aload_n rfl rfl ?_
    refine am_q_gi rfl rfl rfl hK.1 ?_
    refine am_q_iload_n rfl rfl ?_
    refine am_q_call rfl rfl (s_hasN _ _ m (Nat.lt_trans (sBits_lt _ _) (by decide)) (by omega) _) rfl ?_
    refine am_q_if_neB rfl (fun c_8 => absurd c_8 (by simp [sBits_tb, hz])) (fun c_8 => ?_)
    refine am_q_iconst (v := nI 0) rfl rfl ?_
    refine am_q_ireturn rfl rfl rfl ?_
    exact ⟨(), rfl⟩)
  obtain ⟨r, h1, u, h2⟩ := key
  exact ⟨u, by rw [h1, h2]⟩

theorem s_goBack1 (d : Nat) (m : Nat) (hm : m < 4) (W0 : sWall) (S0 : sSeen) (n : Nat) {V : sVal} {W : sWall} {U : List sWall} {K : Nat → Option (sWall × sSeen)} {S : sSeen} {Y : sYear} {μ : am_M2} (ν : am_N2) (hR : xR μ V W U K S Y) (hO : vOk V) (hI : sI (vN V) (vP V) W.1 W.2.1) (ht : W.2.2 < 2 ^ 20) (hz : K m = some (W0, S0)) : ∃ (μ' : am_M2), am_run (d + 2) 171 [.ref 41, .int (nI m), .ref 35, .ref 117] (am_hp n μ ν) = some (some (.int (sB true)), am_hp n μ' ν) ∧ xR μ' V W0 [] K S0 Y ∧ frX μ μ' := by
  obtain ⟨hV, hW, hU, hK, hS, hY⟩ := hR
  have h6 := hO.1.1
  have hP8 := hO.1.2.1
  have h8 := sI_8 hO hI
  obtain ⟨hw0, hs0⟩ := hK.2 m hm W0 S0 hz
  obtain ⟨a, b, hc, ha, hb⟩ := s_wcopyX d n 35 (93 + 6 * m) ν (isWl_35 n) (isWl_mark n m hm) (by omega) hw0
  have hr1 := fun i (hi : i < 35 ∨ 35 + 3 ≤ i) => am_wl_row (μ := μ) (a := a) (b := b) (x := nI W0.2.2) hi
  obtain ⟨μ2, hc2, hs2, hr2⟩ := s_scopyX d n 117 (96 + 6 * m) ν (isSn_117 n) (isSn_mark n m hm) (by omega) (xSeen_rows (fun i p q => hr1 i (by omega)) hs0)
  have key : ∃ r, am_run (d + 2) 171 [.ref 41, .int (nI m), .ref 35, .ref 117] (am_hp n μ ν) = some r ∧ ∃ (μ' : am_M2), r = (some (.int (sB true)), am_hp n μ' ν) ∧ xR μ' V W0 [] K S0 Y ∧ frX μ μ' := am_run_wE (k := 171) (d := d + 1) rfl rfl (Nat.le_of_ble_eq_true rfl) [some (.ref 41), some (.int (nI m)), some (.ref 35), some (.ref 117)] rfl (by
    refine am_q_aload_n rfl rfl ?_
    refine am_q_gi rfl rfl rfl hK.1 ?_
    refine am_q_iload_n rfl rfl ?_
    refine am_q_call rfl rfl (s_hasN _ _ m (Nat.lt_trans (sBits_lt _ _) (by decide)) (by omega) _) rfl ?_
    refine am_q_if_neB rfl (fun c_8 => ?_) (fun c_8 => absurd c_8 (by simp [sBits_tb, hz, hm]))
    refine am_q_aload_n rfl rfl ?_
    refine am_q_aload_n rfl rfl ?_
    refine am_q_gr rfl rfl rfl ?_
    refine am_q_iload_n rfl rfl ?_
    refine am_q_aald rfl rfl (by first | exact am_ix_nI (by omega) (by omega) | rfl) rfl ?_
    refine am_q_call rfl rfl (hc) rfl ?_
    refine am_q_aload_n rfl rfl ?_
    refine am_q_aload_n rfl rfl ?_
    refine am_q_gr rfl rfl rfl ?_
    refine am_q_iload_n rfl rfl ?_
    refine am_q_aald rfl rfl (by first | exact am_ix_nI (by omega) (by omega) | rfl) rfl ?_
    refine am_q_call rfl rfl (hc2) rfl ?_
    refine am_q_aload_n rfl rfl ?_
    refine am_q_iconst (v := nI 0) rfl rfl ?_
    refine am_q_pi rfl rfl rfl (Or.inl rfl) ?_
    refine am_q_iconst (v := nI 1) rfl rfl ?_
    refine am_q_ireturn rfl rfl rfl ?_
    have hr : ∀ i, (i < 35 ∨ 38 ≤ i) → (i < 117 ∨ 120 ≤ i) → μ2 i = μ i := fun i h1 h2 => (hr2 i (by omega)).trans (hr1 i (by omega))
    have hr3 : ∀ i, i ≠ 41 → am_up μ2 41 5 (nI 0) i = μ2 i := fun i hi => by funext k; unfold am_up; rw [if_neg hi]
    have h41 : ∀ k, k ≠ 5 → am_up μ2 41 5 (nI 0) 41 k = μ 41 k := fun k hk => by unfold am_up; rw [if_pos rfl, if_neg hk, hr 41 (by omega) (by omega)]
    have hrr : ∀ i, i ≠ 41 → (i < 35 ∨ 38 ≤ i) → (i < 117 ∨ 120 ≤ i) → am_up μ2 41 5 (nI 0) i = μ i := fun i h1 h2 h3 => (hr3 i h1).trans (hr i h2 h3)
    obtain ⟨x, hx, hx4, -⟩ := hU
    exact ⟨_, rfl, ⟨xVal_rows (fun i q1 q2 => hrr i (by omega) (by omega) (by omega)) hV, xW_rows (fun i q1 q2 => (hr3 i (by omega)).trans (hr2 i (by omega))) (xW_wl ha hb), ⟨x, hx, (h41 4 (by decide)).trans hx4, rfl, Nat.zero_le _, fun j hj => absurd hj (Nat.not_lt_zero j)⟩, xMk_rows (h41 3 (by decide)) (fun i q1 q2 => hrr i (by omega) (by omega) (by omega)) hK, xSeen_rows (fun i q1 q2 => hr3 i (by omega)) hs2, xYear_rows (fun i q1 q2 => hrr i (by omega) (by omega) (by omega)) hY⟩, fun i q => hrr i (by omega) (by omega) (by omega)⟩)
  obtain ⟨r, h1, μ', h2, h3⟩ := key
  exact ⟨μ', by rw [h1, h2], h3⟩
