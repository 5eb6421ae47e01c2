theorem m_pas1 (d : Nat) (n : Nat) {V : sVal} {W : sWall} {μ : am_M2} (ν : am_N2) (hV : mVal μ V) (hO : vOk V) (b : Nat) (hb : b + 13 ≤ 836) (hW : mWall μ b W) (hI : sI (vN V) (vP V) W.1 W.2.1) (c : Nat) (hc : c < 2 ^ 20) (Q : am_R → Prop) (K : ∀ μ1, frD μ μ1 → am_w (d + 4) (Option.some FieldType.int) am_g240 53 [some (.ref 133), some (.int (nI b)), some (.int (nI c)), some (.int (nI (sBits (sFall V W.2.1 W.2.2 c) (vN V)))), some (.int (nI (vN V))), none] [] (am_hp n μ1 ν) Q) : ∀ (m j : Nat) (μ1 : am_M2), j + m = vN V → frD μ μ1 → am_w (d + 4) (Option.some FieldType.int) am_g240 5 [some (.ref 133), some (.int (nI b)), some (.int (nI c)), some (.int (nI (sBits (sFall V W.2.1 W.2.2 c) j))), some (.int (nI j)), none] [] (am_hp n μ1 ν) (Q) := by
  intro m
  induction m with
  | zero =>
    intro j μ1 hj hinv
    have h6 := hO.1.1
    have hP8 := hO.1.2.1
    have hV1 := mVal_D hinv hV
    have hW1 := mWall_D hinv hW
    refine am_q_iload rfl rfl ?_
    refine am_q_aload_n rfl rfl ?_
    refine am_q_call rfl rfl (m_souls _ _ _ hV1) rfl ?_
    refine am_q_igeN rfl (by omega) (by omega) (fun c_11 => ?_) (fun c_11 => absurd c_11 (by omega))
    rw [show j = vN V by omega]
    exact K _ hinv
  | succ m ih =>
    intro j μ1 hj hinv
    have h6 := hO.1.1
    have hP8 := hO.1.2.1
    have hV1 := mVal_D hinv hV
    have hW1 := mWall_D hinv hW
    have k1 := hI j (by omega)
    have k4 := k1.1
    refine am_q_iload rfl rfl ?_
    refine am_q_aload_n rfl rfl ?_
    refine am_q_call rfl rfl (m_souls _ _ _ hV1) rfl ?_
    refine am_q_igeN rfl (by omega) (by omega) (fun c_11 => absurd c_11 (by omega)) (fun c_11 => ?_)
    refine am_q_iload_n rfl rfl ?_
    refine am_q_aload_n rfl rfl ?_
    refine am_q_iload_n rfl rfl ?_
    refine am_q_iload rfl rfl ?_
    refine am_q_call rfl rfl (m_isNowW _ n ν b hb hW1 _ (by omega)) rfl ?_
    refine am_q_iconst (v := nI 2) rfl rfl ?_
    refine am_q_ineN rfl (by omega) (by omega) (fun c_23 => ?_) (fun c_23 => ?_)
    · have hf0 : (sFall V W.2.1 W.2.2 c) j = false := by unfold sFall; rw [show W.2.1 j = none from by cases hq : W.2.1 j with | none => rfl | some p => exact absurd (k1.2.1.mp (by rw [hq]; rfl)) c_23]
      refine am_q_iconst (v := nI 0) rfl rfl ?_
      refine am_q_ior rfl (sn_or _ _) ?_
      refine am_q_istore_n [some _, some _, some _, some _, some _, none] rfl (Nat.le_of_ble_eq_true rfl) rfl ?_
      refine am_q_iinc [some _, some _, some _, some _, some _, none] rfl (c := nI 1) rfl rfl (Nat.le_of_ble_eq_true rfl) (nI_add _ _) rfl ?_
      refine am_q_goto rfl ?_
      first | (have e := ih (j + 1) _ (by omega) (frD_tr hinv hf2); rw [sBits_s, if_pos c_34] at e; exact e) | (have e := ih (j + 1) _ (by omega) (frD_tr hinv hf2); rw [sBits_s, if_neg (by rw [c_34]; exact Bool.false_ne_true)] at e; rw [Nat.or_zero]; exact e) | (have e := ih (j + 1) _ (by omega) hinv; rw [sBits_s, if_neg (by rw [hf0]; exact Bool.false_ne_true)] at e; rw [Nat.or_zero]; exact e)
    · refine am_q_aload_n rfl rfl ?_
      refine am_q_iload_n rfl rfl ?_
      refine am_q_iload rfl rfl ?_
      refine am_q_iload_n rfl rfl ?_
      obtain ⟨μ2, hc2, hf2⟩ := m_doesFall _ n ν hV1 hO b hb hW1 hI j (by omega) c hc c_23
      refine am_q_call rfl rfl (hc2) rfl ?_
      refine am_q_if_eqB rfl (fun c_34 => ?_) (fun c_34 => ?_)
      · refine am_q_iconst (v := nI 0) rfl rfl ?_
        refine am_q_ior rfl (sn_or _ _) ?_
        refine am_q_istore_n [some _, some _, some _, some _, some _, none] rfl (Nat.le_of_ble_eq_true rfl) rfl ?_
        refine am_q_iinc [some _, some _, some _, some _, some _, none] rfl (c := nI 1) rfl rfl (Nat.le_of_ble_eq_true rfl) (nI_add _ _) rfl ?_
        refine am_q_goto rfl ?_
        first | (have e := ih (j + 1) _ (by omega) (frD_tr hinv hf2); rw [sBits_s, if_pos c_34] at e; exact e) | (have e := ih (j + 1) _ (by omega) (frD_tr hinv hf2); rw [sBits_s, if_neg (by rw [c_34]; exact Bool.false_ne_true)] at e; rw [Nat.or_zero]; exact e) | (have e := ih (j + 1) _ (by omega) hinv; rw [sBits_s, if_neg (by rw [hf0]; exact Bool.false_ne_true)] at e; rw [Nat.or_zero]; exact e)
      · refine am_q_iconst (v := nI 1) rfl rfl ?_
        refine am_q_iload rfl rfl ?_
        refine am_q_ishl rfl (sn_shl1 (by omega)) ?_
        refine am_q_goto rfl ?_
        refine am_q_ior rfl (sn_or _ _) ?_
        refine am_q_istore_n [some _, some _, some _, some _, some _, none] rfl (Nat.le_of_ble_eq_true rfl) rfl ?_
        refine am_q_iinc [some _, some _, some _, some _, some _, none] rfl (c := nI 1) rfl rfl (Nat.le_of_ble_eq_true rfl) (nI_add _ _) rfl ?_
        refine am_q_goto rfl ?_
        first | (have e := ih (j + 1) _ (by omega) (frD_tr hinv hf2); rw [sBits_s, if_pos c_34] at e; exact e) | (have e := ih (j + 1) _ (by omega) (frD_tr hinv hf2); rw [sBits_s, if_neg (by rw [c_34]; exact Bool.false_ne_true)] at e; rw [Nat.or_zero]; exact e) | (have e := ih (j + 1) _ (by omega) hinv; rw [sBits_s, if_neg (by rw [hf0]; exact Bool.false_ne_true)] at e; rw [Nat.or_zero]; exact e)

theorem m_pasS (d n b c fl j : Nat) (μ : am_M2) (ν : am_N2) (hb : b + 13 ≤ 836) (hj : j < 6) (hfl : fl < 64) (lk : Bool) (o5 : Option Value) (Q : am_R → Prop) (K1 : fl.testBit j = true → ∀ o5, am_w (d + 4) (Option.some FieldType.int) am_g240 56 [some (.ref 133), some (.int (nI b)), some (.int (nI c)), some (.int (nI fl)), some (.int (nI (j + 1))), o5] [] (am_hp n (am_up (am_up μ 145 (b + 1 + j) (nI 3)) 145 (b + 7 + j) (-1)) ν) Q) (K2 : fl.testBit j = false → lk = true → ∀ o5, am_w (d + 4) (Option.some FieldType.int) am_g240 56 [some (.ref 133), some (.int (nI b)), some (.int (nI c)), some (.int (nI fl)), some (.int (nI (j + 1))), o5] [] (am_hp n (am_up (am_up μ 145 (b + 1 + j) (nI 4)) 145 (b + 7 + j) (-1)) ν) Q) (K3 : fl.testBit j = false → lk = false → ∀ o5, am_w (d + 4) (Option.some FieldType.int) am_g240 56 [some (.ref 133), some (.int (nI b)), some (.int (nI c)), some (.int (nI fl)), some (.int (nI (j + 1))), o5] [] (am_hp n μ ν) Q) : am_w (d + 4) (Option.some FieldType.int) am_g240 117 [some (.ref 133), some (.int (nI b)), some (.int (nI c)), some (.int (nI fl)), some (.int (nI j)), o5] [.int (sB lk)] (am_hp n μ ν) (Q) := by
  refine am_q_istore [some _, some _, some _, some _, some _, some _] rfl (Nat.le_of_ble_eq_true rfl) rfl ?_
  refine am_q_iload_n rfl rfl ?_
  refine am_q_iload rfl rfl ?_
  refine am_q_ishr rfl (sn_shr (by omega) (by omega)) ?_
  refine am_q_iconst (v := nI 1) rfl rfl ?_
  refine am_q_iand rfl (show nI (fl / 2 ^ j) &&& nI 1 = nI (fl / 2 ^ j % 2) from fa_mask _ 1) ?_
  refine am_q_iconst (v := nI 1) rfl rfl ?_
  refine am_q_ineN rfl (by omega) (by omega) (fun c_126 => ?_) (fun c_126 => ?_)
  · refine am_q_iload rfl rfl ?_
    refine am_q_if_eqB rfl (fun c_142 => ?_) (fun c_142 => ?_)
    · refine am_q_iinc [some _, some _, some _, some _, some _, some _] rfl (c := nI 1) rfl rfl (Nat.le_of_ble_eq_true rfl) (nI_add _ _) rfl ?_
      refine am_q_goto rfl ?_
      first | exact K1 ((tb_1 _ _).mp c_126) _ | exact K2 ((tb_0 _ _).mp c_126) c_142 _ | exact K3 ((tb_0 _ _).mp c_126) c_142 _
    · refine am_q_aload_n rfl rfl ?_
      refine am_q_iload_n rfl rfl ?_
      refine am_q_iload rfl rfl ?_
      refine am_q_iconst (v := nI 4) rfl rfl ?_
      refine am_q_call rfl rfl (m_leave _ n b j hb hj _ _ _) rfl ?_
      refine am_q_iinc [some _, some _, some _, some _, some _, some _] rfl (c := nI 1) rfl rfl (Nat.le_of_ble_eq_true rfl) (nI_add _ _) rfl ?_
      refine am_q_goto rfl ?_
      first | exact K1 ((tb_1 _ _).mp c_126) _ | exact K2 ((tb_0 _ _).mp c_126) c_142 _ | exact K3 ((tb_0 _ _).mp c_126) c_142 _
  · refine am_q_aload_n rfl rfl ?_
    refine am_q_iload_n rfl rfl ?_
    refine am_q_iload rfl rfl ?_
    refine am_q_iconst (v := nI 3) rfl rfl ?_
    refine am_q_call rfl rfl (m_leave _ n b j hb hj _ _ _) rfl ?_
    refine am_q_goto rfl ?_
    refine am_q_iinc [some _, some _, some _, some _, some _, some _] rfl (c := nI 1) rfl rfl (Nat.le_of_ble_eq_true rfl) (nI_add _ _) rfl ?_
    refine am_q_goto rfl ?_
    first | exact K1 ((tb_1 _ _).mp c_126) _ | exact K2 ((tb_0 _ _).mp c_126) c_142 _ | exact K3 ((tb_0 _ _).mp c_126) c_142 _

def pt {α : Type} (A B : Nat → α) (j : Nat) : Nat → α := fun s => if s < j then A s else B s
theorem pt_0 {α : Type} (A B : Nat → α) : pt A B 0 = B := by funext s; unfold pt; rw [if_neg (by omega)]
theorem pt_j {α : Type} (A B : Nat → α) (j : Nat) : pt A B j j = B j := by unfold pt; rw [if_neg (by omega)]
theorem pt_s {α : Type} {A B : Nat → α} {j : Nat} {x : α} (h : A j = x) : fup (pt A B j) j x = pt A B (j + 1) := by
  funext s
  unfold fup pt
  by_cases e : s = j
  · rw [if_pos e, if_pos (by omega), e, h]
  · rw [if_neg e]
    by_cases z : s < j
    · rw [if_pos z, if_pos (by omega)]
    · rw [if_neg z, if_neg (by omega)]
theorem pt_k {α : Type} {A B : Nat → α} {j : Nat} (h : A j = B j) : pt A B j = pt A B (j + 1) := by
  rw [← pt_s rfl]
  funext s
  unfold fup
  by_cases e : s = j
  · rw [if_pos e, e, pt_j, h]
  · rw [if_neg e]
theorem pt_all {α : Type} {A B : Nat → α} {N : Nat} (h : ∀ s, N ≤ s → A s = B s) : pt A B N = A := by
  funext s
  unfold pt
  by_cases z : s < N
  · rw [if_pos z]
  · rw [if_neg z, h s (by omega)]
def wkJ (V : sVal) (W : sWall) (c j : Nat) : sWall := (pt (wkSt V W.1 W.2.1 W.2.2 c) W.1 j, pt (wkPl V W.2.1 W.2.2 c) W.2.1 j, W.2.2)
theorem wkJ_f {V : sVal} {W : sWall} {c j : Nat} (hj : j < vN V) (h : sFall V W.2.1 W.2.2 c j = true) : (fup (wkJ V W c j).1 j 3, fup (wkJ V W c j).2.1 j none, (wkJ V W c j).2.2) = wkJ V W c (j + 1) := by
  unfold wkJ
  rw [pt_s (x := 3) (by unfold wkSt; rw [if_pos hj, if_pos h]), pt_s (x := none) (by unfold wkPl; rw [if_pos hj, if_pos h])]
theorem wkJ_l {V : sVal} {W : sWall} {c j : Nat} (hj : j < vN V) (h : sFall V W.2.1 W.2.2 c j = false) (h2 : W.1 j = 0 ∧ vLeak V j = true ∧ vD V j ≤ W.2.2) (hn : W.2.1 j = none) : (fup (wkJ V W c j).1 j 4, fup (wkJ V W c j).2.1 j none, (wkJ V W c j).2.2) = wkJ V W c (j + 1) := by
  unfold wkJ
  rw [pt_s (x := 4) (by unfold wkSt; rw [if_pos hj, if_neg (by rw [h]; exact Bool.false_ne_true), if_pos h2]), pt_s (x := none) (by unfold wkPl; rw [if_pos hj, if_neg (by rw [h]; exact Bool.false_ne_true)]; exact hn)]
theorem wkJ_k {V : sVal} {W : sWall} {c j : Nat} (hj : j < vN V) (h : sFall V W.2.1 W.2.2 c j = false) (h2 : ¬ (W.1 j = 0 ∧ vLeak V j = true ∧ vD V j ≤ W.2.2)) : wkJ V W c j = wkJ V W c (j + 1) := by
  unfold wkJ
  rw [pt_k (j := j) (by unfold wkSt; rw [if_pos hj, if_neg (by rw [h]; exact Bool.false_ne_true), if_neg h2]), pt_k (j := j) (by unfold wkPl; rw [if_pos hj, if_neg (by rw [h]; exact Bool.false_ne_true)])]
theorem wkJ_N (V : sVal) (W : sWall) (c : Nat) : wkJ V W c (vN V) = (wkSt V W.1 W.2.1 W.2.2 c, wkPl V W.2.1 W.2.2 c, W.2.2) := by
  unfold wkJ
  rw [pt_all (fun s hs => by unfold wkSt; rw [if_neg (by omega)]), pt_all (fun s hs => by unfold wkPl; rw [if_neg (by omega)])]
theorem mWall_t {μ : am_M2} {b t : Nat} {st : Nat → Nat} {pl : Nat → Option Nat} {u : Int32} (hu : u = nI (t + 1)) (h : mWall μ b (st, pl, t)) : mWall (am_up μ 145 b u) b (st, pl, t + 1) :=
  ⟨by rw [am_up_eq, hu], fun s hs => by rw [am_up_ne (Or.inr (by omega)), am_up_ne (Or.inr (by omega))]; exact h.2 s hs⟩
theorem m_pas2 (d : Nat) (n : Nat) {V : sVal} {W : sWall} {μ : am_M2} (ν : am_N2) (hV : mVal μ V) (hO : vOk V) (b : Nat) (hb : b + 13 ≤ 836) (hW : mWall μ b W) (hI : sI (vN V) (vP V) W.1 W.2.1) (c : Nat) (hc : c < 2 ^ 20) (ht : W.2.2 < 2 ^ 30) : ∀ (m j : Nat) (μ1 : am_M2) (o5 : Option Value), j + m = vN V → frB b μ μ1 ∧ mWall μ1 b (wkJ V W c j) → am_w (d + 4) (Option.some FieldType.int) am_g240 56 [some (.ref 133), some (.int (nI b)), some (.int (nI c)), some (.int (nI (sBits (sFall V W.2.1 W.2.2 c) (vN V)))), some (.int (nI j)), o5] [] (am_hp n μ1 ν) (fun y => ∃ μ', y = (some (.int (nI (sBits (sFall V W.2.1 W.2.2 c) (vN V)))), am_hp n μ' ν) ∧ mWall μ' b (wk V W c) ∧ frB b μ μ') := by
  intro m
  induction m with
  | zero =>
    intro j μ1 o5 hj hinv
    have h6 := hO.1.1
    have hP8 := hO.1.2.1
    have hV1 := mVal_B hinv.1 hV
    refine am_q_iload rfl rfl ?_
    refine am_q_aload_n rfl rfl ?_
    refine am_q_call rfl rfl (m_souls _ _ _ hV1) rfl ?_
    refine am_q_igeN rfl (by omega) (by omega) (fun c_62 => ?_) (fun c_62 => absurd c_62 (by omega))
    refine am_q_aload_n rfl rfl ?_
    refine am_q_gr rfl rfl rfl ?_
    refine am_q_iload_n rfl rfl ?_
    refine am_q_dup2ir rfl ?_
    refine am_q_iald rfl rfl (am_ix_nI (show b < 836 by omega) (by decide)) (show _ = nI W.2.2 from hinv.2.1) ?_
    refine am_q_iconst (v := nI 1) rfl rfl ?_
    refine am_q_iadd rfl (nI_add _ _) ?_
    refine am_q_iast rfl rfl (am_ix_nI (show b < 836 by omega) (by decide)) rfl ?_
    refine am_q_iload_n rfl rfl ?_
    refine am_q_ireturn rfl rfl rfl ?_
    rw [show j = vN V by omega, wkJ_N] at hinv
    exact ⟨_, rfl, mWall_t rfl hinv.2, frB_tr hinv.1 (frB_up (by omega) (by omega))⟩
  | succ m ih =>
    intro j μ1 o5 hj hinv
    have h6 := hO.1.1
    have hP8 := hO.1.2.1
    have hV1 := mVal_B hinv.1 hV
    have k1 := hI j (by omega)
    have k4 := k1.1
    have v1 := hO.2.1 j (by omega)
    have htb : (sBits (sFall V W.2.1 W.2.2 c) (vN V)).testBit j = (sFall V W.2.1 W.2.2 c) j := by rw [sBits_tb]; simp [show j < vN V by omega]
    have hlk : (decide (W.1 j = 0) && vLeak V j && decide (vD V j ≤ W.2.2)) = true ↔ (W.1 j = 0 ∧ vLeak V j = true ∧ vD V j ≤ W.2.2) := by simp [and_assoc]
    have hv1 : vK V j = 0 → vLeak V j = true := fun z => by unfold vLeak; rw [decide_eq_true z]; rfl
    have hv3 : vK V j = 3 → vLeak V j = true := fun z => by unfold vLeak; rw [decide_eq_true z, Bool.or_true]
    have hv0 : ¬ vK V j = 0 → ¬ vK V j = 3 → vLeak V j = false := fun z y => by unfold vLeak; rw [decide_eq_false z, decide_eq_false y]; rfl
    have hpn : W.1 j = 0 → W.2.1 j = none := fun z => by cases hq : W.2.1 j with | none => rfl | some p => have := k1.2.1.mp (by rw [hq]; rfl); omega
    refine am_q_iload rfl rfl ?_
    refine am_q_aload_n rfl rfl ?_
    refine am_q_call rfl rfl (m_souls _ _ _ hV1) rfl ?_
    refine am_q_igeN rfl (by omega) (by omega) (fun c_62 => absurd c_62 (by omega)) (fun c_62 => ?_)
    refine am_q_aload_n rfl rfl ?_
    refine am_q_iload_n rfl rfl ?_
    refine am_q_iload rfl rfl ?_
    have hnj : (wkJ V W c j).1 j = W.1 j := pt_j _ _ _
    have hcn := m_isNowW (d + 3) n ν b hb hinv.2 j (by omega)
    rw [hnj] at hcn
    refine am_q_call rfl rfl (hcn) rfl ?_
    refine am_q_zneN rfl (by omega) (fun c_72 => ?_) (fun c_72 => ?_)
    · refine am_q_iconst (v := nI 0) rfl rfl ?_
      have hlv : sB (decide (W.1 j = 0) && vLeak V j && decide (vD V j ≤ W.2.2)) = nI 0 := by first | (rw [decide_eq_false c_72]; rfl) | (rw [decide_eq_true c_72, hv1 c_82, decide_eq_true c_109]; rfl) | (rw [decide_eq_true c_72, hv3 c_93, decide_eq_true c_109]; rfl) | (rw [decide_eq_true c_72, hv1 c_82, decide_eq_false (Nat.not_le.mpr c_109)]; rfl) | (rw [decide_eq_true c_72, hv3 c_93, decide_eq_false (Nat.not_le.mpr c_109)]; rfl) | (rw [decide_eq_true c_72, hv0 c_82 c_93]; rfl)
      rw [← hlv]
      refine m_pasS d n b c _ j μ1 ν hb (by omega) (sn_64 h6) (decide (W.1 j = 0) && vLeak V j && decide (vD V j ≤ W.2.2)) o5 _ (fun a o => ?_) (fun a a2 o => ?_) (fun a a2 o => ?_)
      · exact ih (j + 1) _ o (by omega) ⟨frB_tr hinv.1 (frB_up2 (by omega)), by rw [← wkJ_f (by omega) (htb.symm.trans a)]; exact mWall_set (by omega) rfl rfl hinv.2⟩
      · exact ih (j + 1) _ o (by omega) ⟨frB_tr hinv.1 (frB_up2 (by omega)), by rw [← wkJ_l (by omega) (htb.symm.trans a) (hlk.mp a2) (hpn (hlk.mp a2).1)]; exact mWall_set (by omega) rfl rfl hinv.2⟩
      · exact ih (j + 1) _ o (by omega) ⟨hinv.1, by rw [← wkJ_k (by omega) (htb.symm.trans a) (fun z => by rw [hlk.mpr z] at a2; cases a2)]; exact hinv.2⟩
    · refine am_q_aload_n rfl rfl ?_
      refine am_q_iload rfl rfl ?_
      refine am_q_iconst (v := nI 0) rfl rfl ?_
      refine am_q_call rfl rfl (m_soulK _ n ν hV1 hO j (by omega)) rfl ?_
      refine am_q_zeqN rfl (by omega) (fun c_82 => ?_) (fun c_82 => ?_)
      · refine am_q_aload_n rfl rfl ?_
        refine am_q_iload rfl rfl ?_
        refine am_q_iconst (v := nI 2) rfl rfl ?_
        refine am_q_call rfl rfl (m_soulD _ n ν hV1 hO j (by omega)) rfl ?_
        refine am_q_aload_n rfl rfl ?_
        refine am_q_gr rfl rfl rfl ?_
        refine am_q_iload_n rfl rfl ?_
        refine am_q_iald rfl rfl (am_ix_nI (show b < 836 by omega) (by decide)) (show _ = nI W.2.2 from hinv.2.1) ?_
        refine am_q_igtN rfl (by omega) (by omega) (fun c_109 => ?_) (fun c_109 => ?_)
        · refine am_q_iconst (v := nI 0) rfl rfl ?_
          have hlv : sB (decide (W.1 j = 0) && vLeak V j && decide (vD V j ≤ W.2.2)) = nI 0 := by first | (rw [decide_eq_false c_72]; rfl) | (rw [decide_eq_true c_72, hv1 c_82, decide_eq_true c_109]; rfl) | (rw [decide_eq_true c_72, hv3 c_93, decide_eq_true c_109]; rfl) | (rw [decide_eq_true c_72, hv1 c_82, decide_eq_false (Nat.not_le.mpr c_109)]; rfl) | (rw [decide_eq_true c_72, hv3 c_93, decide_eq_false (Nat.not_le.mpr c_109)]; rfl) | (rw [decide_eq_true c_72, hv0 c_82 c_93]; rfl)
          rw [← hlv]
          refine m_pasS d n b c _ j μ1 ν hb (by omega) (sn_64 h6) (decide (W.1 j = 0) && vLeak V j && decide (vD V j ≤ W.2.2)) o5 _ (fun a o => ?_) (fun a a2 o => ?_) (fun a a2 o => ?_)
          · exact ih (j + 1) _ o (by omega) ⟨frB_tr hinv.1 (frB_up2 (by omega)), by rw [← wkJ_f (by omega) (htb.symm.trans a)]; exact mWall_set (by omega) rfl rfl hinv.2⟩
          · exact ih (j + 1) _ o (by omega) ⟨frB_tr hinv.1 (frB_up2 (by omega)), by rw [← wkJ_l (by omega) (htb.symm.trans a) (hlk.mp a2) (hpn (hlk.mp a2).1)]; exact mWall_set (by omega) rfl rfl hinv.2⟩
          · exact ih (j + 1) _ o (by omega) ⟨hinv.1, by rw [← wkJ_k (by omega) (htb.symm.trans a) (fun z => by rw [hlk.mpr z] at a2; cases a2)]; exact hinv.2⟩
        · refine am_q_iconst (v := nI 1) rfl rfl ?_
          refine am_q_goto rfl ?_
          have hlv : sB (decide (W.1 j = 0) && vLeak V j && decide (vD V j ≤ W.2.2)) = nI 1 := by first | (rw [decide_eq_false c_72]; rfl) | (rw [decide_eq_true c_72, hv1 c_82, decide_eq_true c_109]; rfl) | (rw [decide_eq_true c_72, hv3 c_93, decide_eq_true c_109]; rfl) | (rw [decide_eq_true c_72, hv1 c_82, decide_eq_false (Nat.not_le.mpr c_109)]; rfl) | (rw [decide_eq_true c_72, hv3 c_93, decide_eq_false (Nat.not_le.mpr c_109)]; rfl) | (rw [decide_eq_true c_72, hv0 c_82 c_93]; rfl)
          rw [← hlv]
          refine m_pasS d n b c _ j μ1 ν hb (by omega) (sn_64 h6) (decide (W.1 j = 0) && vLeak V j && decide (vD V j ≤ W.2.2)) o5 _ (fun a o => ?_) (fun a a2 o => ?_) (fun a a2 o => ?_)
          · exact ih (j + 1) _ o (by omega) ⟨frB_tr hinv.1 (frB_up2 (by omega)), by rw [← wkJ_f (by omega) (htb.symm.trans a)]; exact mWall_set (by omega) rfl rfl hinv.2⟩
          · exact ih (j + 1) _ o (by omega) ⟨frB_tr hinv.1 (frB_up2 (by omega)), by rw [← wkJ_l (by omega) (htb.symm.trans a) (hlk.mp a2) (hpn (hlk.mp a2).1)]; exact mWall_set (by omega) rfl rfl hinv.2⟩
          · exact ih (j + 1) _ o (by omega) ⟨hinv.1, by rw [← wkJ_k (by omega) (htb.symm.trans a) (fun z => by rw [hlk.mpr z] at a2; cases a2)]; exact hinv.2⟩
      · refine am_q_aload_n rfl rfl ?_
        refine am_q_iload rfl rfl ?_
        refine am_q_iconst (v := nI 0) rfl rfl ?_
        refine am_q_call rfl rfl (m_soulK _ n ν hV1 hO j (by omega)) rfl ?_
        refine am_q_iconst (v := nI 3) rfl rfl ?_
        refine am_q_ineN rfl (by omega) (by omega) (fun c_93 => ?_) (fun c_93 => ?_)
        · refine am_q_iconst (v := nI 0) rfl rfl ?_
          have hlv : sB (decide (W.1 j = 0) && vLeak V j && decide (vD V j ≤ W.2.2)) = nI 0 := by first | (rw [decide_eq_false c_72]; rfl) | (rw [decide_eq_true c_72, hv1 c_82, decide_eq_true c_109]; rfl) | (rw [decide_eq_true c_72, hv3 c_93, decide_eq_true c_109]; rfl) | (rw [decide_eq_true c_72, hv1 c_82, decide_eq_false (Nat.not_le.mpr c_109)]; rfl) | (rw [decide_eq_true c_72, hv3 c_93, decide_eq_false (Nat.not_le.mpr c_109)]; rfl) | (rw [decide_eq_true c_72, hv0 c_82 c_93]; rfl)
          rw [← hlv]
          refine m_pasS d n b c _ j μ1 ν hb (by omega) (sn_64 h6) (decide (W.1 j = 0) && vLeak V j && decide (vD V j ≤ W.2.2)) o5 _ (fun a o => ?_) (fun a a2 o => ?_) (fun a a2 o => ?_)
          · exact ih (j + 1) _ o (by omega) ⟨frB_tr hinv.1 (frB_up2 (by omega)), by rw [← wkJ_f (by omega) (htb.symm.trans a)]; exact mWall_set (by omega) rfl rfl hinv.2⟩
          · exact ih (j + 1) _ o (by omega) ⟨frB_tr hinv.1 (frB_up2 (by omega)), by rw [← wkJ_l (by omega) (htb.symm.trans a) (hlk.mp a2) (hpn (hlk.mp a2).1)]; exact mWall_set (by omega) rfl rfl hinv.2⟩
          · exact ih (j + 1) _ o (by omega) ⟨hinv.1, by rw [← wkJ_k (by omega) (htb.symm.trans a) (fun z => by rw [hlk.mpr z] at a2; cases a2)]; exact hinv.2⟩
        · refine am_q_aload_n rfl rfl ?_
          refine am_q_iload rfl rfl ?_
          refine am_q_iconst (v := nI 2) rfl rfl ?_
          refine am_q_call rfl rfl (m_soulD _ n ν hV1 hO j (by omega)) rfl ?_
          refine am_q_aload_n rfl rfl ?_
          refine am_q_gr rfl rfl rfl ?_
          refine am_q_iload_n rfl rfl ?_
          refine am_q_iald rfl rfl (am_ix_nI (show b < 836 by omega) (by decide)) (show _ = nI W.2.2 from hinv.2.1) ?_
          refine am_q_igtN rfl (by omega) (by omega) (fun c_109 => ?_) (fun c_109 => ?_)
          · refine am_q_iconst (v := nI 0) rfl rfl ?_
            have hlv : sB (decide (W.1 j = 0) && vLeak V j && decide (vD V j ≤ W.2.2)) = nI 0 := by first | (rw [decide_eq_false c_72]; rfl) | (rw [decide_eq_true c_72, hv1 c_82, decide_eq_true c_109]; rfl) | (rw [decide_eq_true c_72, hv3 c_93, decide_eq_true c_109]; rfl) | (rw [decide_eq_true c_72, hv1 c_82, decide_eq_false (Nat.not_le.mpr c_109)]; rfl) | (rw [decide_eq_true c_72, hv3 c_93, decide_eq_false (Nat.not_le.mpr c_109)]; rfl) | (rw [decide_eq_true c_72, hv0 c_82 c_93]; rfl)
            rw [← hlv]
            refine m_pasS d n b c _ j μ1 ν hb (by omega) (sn_64 h6) (decide (W.1 j = 0) && vLeak V j && decide (vD V j ≤ W.2.2)) o5 _ (fun a o => ?_) (fun a a2 o => ?_) (fun a a2 o => ?_)
            · exact ih (j + 1) _ o (by omega) ⟨frB_tr hinv.1 (frB_up2 (by omega)), by rw [← wkJ_f (by omega) (htb.symm.trans a)]; exact mWall_set (by omega) rfl rfl hinv.2⟩
            · exact ih (j + 1) _ o (by omega) ⟨frB_tr hinv.1 (frB_up2 (by omega)), by rw [← wkJ_l (by omega) (htb.symm.trans a) (hlk.mp a2) (hpn (hlk.mp a2).1)]; exact mWall_set (by omega) rfl rfl hinv.2⟩
            · exact ih (j + 1) _ o (by omega) ⟨hinv.1, by rw [← wkJ_k (by omega) (htb.symm.trans a) (fun z => by rw [hlk.mpr z] at a2; cases a2)]; exact hinv.2⟩
          · refine am_q_iconst (v := nI 1) rfl rfl ?_
            refine am_q_goto rfl ?_
            have hlv : sB (decide (W.1 j = 0) && vLeak V j && decide (vD V j ≤ W.2.2)) = nI 1 := by first | (rw [decide_eq_false c_72]; rfl) | (rw [decide_eq_true c_72, hv1 c_82, decide_eq_true c_109]; rfl) | (rw [decide_eq_true c_72, hv3 c_93, decide_eq_true c_109]; rfl) | (rw [decide_eq_true c_72, hv1 c_82, decide_eq_false (Nat.not_le.mpr c_109)]; rfl) | (rw [decide_eq_true c_72, hv3 c_93, decide_eq_false (Nat.not_le.mpr c_109)]; rfl) | (rw [decide_eq_true c_72, hv0 c_82 c_93]; rfl)
            rw [← hlv]
            refine m_pasS d n b c _ j μ1 ν hb (by omega) (sn_64 h6) (decide (W.1 j = 0) && vLeak V j && decide (vD V j ≤ W.2.2)) o5 _ (fun a o => ?_) (fun a a2 o => ?_) (fun a a2 o => ?_)
            · exact ih (j + 1) _ o (by omega) ⟨frB_tr hinv.1 (frB_up2 (by omega)), by rw [← wkJ_f (by omega) (htb.symm.trans a)]; exact mWall_set (by omega) rfl rfl hinv.2⟩
            · exact ih (j + 1) _ o (by omega) ⟨frB_tr hinv.1 (frB_up2 (by omega)), by rw [← wkJ_l (by omega) (htb.symm.trans a) (hlk.mp a2) (hpn (hlk.mp a2).1)]; exact mWall_set (by omega) rfl rfl hinv.2⟩
            · exact ih (j + 1) _ o (by omega) ⟨hinv.1, by rw [← wkJ_k (by omega) (htb.symm.trans a) (fun z => by rw [hlk.mpr z] at a2; cases a2)]; exact hinv.2⟩

/-- StoneSecretsModel.passes(II)I -/
theorem m_passes (d : Nat) (n : Nat) {V : sVal} {W : sWall} {μ : am_M2} (ν : am_N2) (hV : mVal μ V) (hO : vOk V) (b : Nat) (hb : b + 13 ≤ 836) (hW : mWall μ b W) (hI : sI (vN V) (vP V) W.1 W.2.1) (c : Nat) (hc : c < 2 ^ 20) (ht : W.2.2 < 2 ^ 30) : ∃ (μ' : am_M2), am_run (d + 5) 240 [.ref 133, .int (nI b), .int (nI c)] (am_hp n μ ν) = some (some (.int (nI (sBits (sFall V W.2.1 W.2.2 c) (vN V)))), am_hp n μ' ν) ∧ mWall μ' b (wk V W c) ∧ frB b μ μ' := by
  have key : ∃ r, am_run (d + 5) 240 [.ref 133, .int (nI b), .int (nI c)] (am_hp n μ ν) = some r ∧ ∃ (μ' : am_M2), r = (some (.int (nI (sBits (sFall V W.2.1 W.2.2 c) (vN V)))), am_hp n μ' ν) ∧ mWall μ' b (wk V W c) ∧ frB b μ μ' := am_run_wE (k := 240) (d := d + 4) rfl rfl (Nat.le_of_ble_eq_true rfl) [some (.ref 133), some (.int (nI b)), some (.int (nI c)), none, none, none] rfl (by
    refine am_q_iconst (v := nI 0) rfl rfl ?_
    refine am_q_istore_n [some _, some _, some _, some _, none, none] rfl (Nat.le_of_ble_eq_true rfl) rfl ?_
    refine am_q_iconst (v := nI 0) rfl rfl ?_
    refine am_q_istore [some _, some _, some _, some _, some _, none] rfl (Nat.le_of_ble_eq_true rfl) rfl ?_
    refine m_pas1 d n ν hV hO b hb hW hI c hc _ (fun μ1 h1 => ?_) (vN V) 0 μ (by omega) (frD_rf μ)
    refine am_q_iconst (v := nI 0) rfl rfl ?_
    refine am_q_istore [some _, some _, some _, some _, some _, none] rfl (Nat.le_of_ble_eq_true rfl) rfl ?_
    exact m_pas2 d n ν hV hO b hb hW hI c hc ht (vN V) 0 μ1 none (by omega) ⟨frB_D h1, by unfold wkJ; rw [pt_0, pt_0]; exact mWall_D h1 hW⟩)
  obtain ⟨r, h1, μ', h2, h3⟩ := key
  exact ⟨μ', by rw [h1, h2], h3⟩

/-- StoneSecretsModel.goes(I)I -/
theorem m_goes (d : Nat) (n : Nat) {V : sVal} {W : sWall} {μ : am_M2} (ν : am_N2) (hV : mVal μ V) (hO : vOk V) (b : Nat) (hb : b + 13 ≤ 836) (hW : mWall μ b W) (hI : sI (vN V) (vP V) W.1 W.2.1) (ht : W.2.2 < 2 ^ 30) : ∃ (μ' : am_M2), am_run (d + 6) 238 [.ref 133, .int (nI b)] (am_hp n μ ν) = some (some (.int (nI (sBits (sFall V W.2.1 W.2.2 (vCold V W.2.2)) (vN V)))), am_hp n μ' ν) ∧ mWall μ' b (wk V W (vCold V W.2.2)) ∧ frB b μ μ' := by
  have hcl := vCold_le hO W.2.2
  have key : ∃ r, am_run (d + 6) 238 [.ref 133, .int (nI b)] (am_hp n μ ν) = some r ∧ ∃ (μ' : am_M2), r = (some (.int (nI (sBits (sFall V W.2.1 W.2.2 (vCold V W.2.2)) (vN V)))), am_hp n μ' ν) ∧ mWall μ' b (wk V W (vCold V W.2.2)) ∧ frB b μ μ' := am_run_wE (k := 238) (d := d + 5) rfl rfl (Nat.le_of_ble_eq_true rfl) [some (.ref 133), some (.int (nI b))] rfl (by
    refine am_q_aload_n rfl rfl ?_
    refine am_q_iload_n rfl rfl ?_
    refine am_q_aload_n rfl rfl ?_
    refine am_q_aload_n rfl rfl ?_
    refine am_q_gr rfl rfl rfl ?_
    refine am_q_iload_n rfl rfl ?_
    refine am_q_iald rfl rfl (am_ix_nI (show b < 836 by omega) (by decide)) hW.1 ?_
    refine am_q_call rfl rfl (m_frostAt _ n ν hV hO W.2.2 (by omega)) rfl ?_
    obtain ⟨μ2, hc2, hf2⟩ := m_passes _ n ν hV hO b hb hW hI (vCold V W.2.2) (by omega) ht
    refine am_q_call rfl rfl (hc2) rfl ?_
    refine am_q_ireturn rfl rfl rfl ?_
    exact ⟨_, rfl, hf2⟩)
  obtain ⟨r, h1, μ', h2, h3⟩ := key
  exact ⟨μ', by rw [h1, h2], h3⟩
