theorem swI_s (V : sVal) (W : sWall) (i x j : Nat) : lpF (fun b y => if W.1 i = 2 ∧ W.1 b = 2 ∧ swOk V W.2.1 i b = true then y + 1 else y) x (j + 1) = if W.1 i = 2 ∧ W.1 j = 2 ∧ swOk V W.2.1 i j = true then lpF (fun b y => if W.1 i = 2 ∧ W.1 b = 2 ∧ swOk V W.2.1 i b = true then y + 1 else y) x j + 1 else lpF (fun b y => if W.1 i = 2 ∧ W.1 b = 2 ∧ swOk V W.2.1 i b = true then y + 1 else y) x j := rfl
theorem sSw_s (V : sVal) (W : sWall) (i : Nat) : sSwaps V W (i + 1) = lpF (fun b y => if W.1 i = 2 ∧ W.1 b = 2 ∧ swOk V W.2.1 i b = true then y + 1 else y) (sSwaps V W i) i := rfl
theorem sp_and {a p : Nat} : (a &&& sn_sp (some p) = 0) ↔ a.testBit p = false := by
  show a &&& 2 ^ p = 0 ↔ _
  constructor
  · intro h
    rw [Bool.eq_false_iff]
    intro q
    have : (a &&& 2 ^ p).testBit p = true := by rw [Nat.testBit_and, q, Nat.testBit_two_pow]; simp
    rw [h] at this; simp at this
  · intro h
    apply Nat.eq_of_testBit_eq
    intro x
    rw [Nat.zero_testBit, Nat.testBit_and, Nat.testBit_two_pow]
    by_cases z : p = x
    · subst z; rw [h]; rfl
    · simp [z]
theorem swP_ok {V : sVal} {pl : Nat → Option Nat} (hp : pOk V pl) {i j : Nat} (hi : i < vN V) (hj : j < vN V) (h6 : vN V ≤ 6) : pOk V (swP pl i j) := by
  have e : ∀ x, swP pl i j x = pl (if x = j then i else if x = i then j else x) := fun x => by
    unfold swP fup
    by_cases a : x = j
    · rw [if_pos a, if_pos a]
    · rw [if_neg a, if_neg a]
      by_cases b : x = i
      · rw [if_pos b, if_pos b]
      · rw [if_neg b, if_neg b]
  intro s hs
  rw [e s]
  refine ⟨fun p h => ?_, fun hn => ?_, fun s' hs' hne h => ?_⟩
  · refine (hp _ ?_).1 p h
    split
    · omega
    · split <;> omega
  · rw [if_neg (by omega), if_neg (by omega)]; exact (hp s hs).2.1 hn
  · rw [e s']
    refine (hp _ ?_).2.2 _ ?_ ?_ h
    · split
      · omega
      · split <;> omega
    · split
      · omega
      · split <;> omega
    · intro z
      apply hne
      (repeat' split at z) <;> omega
theorem sw_I {V : sVal} {W : sWall} {i j : Nat} (hI : sI (vN V) (vP V) W.1 W.2.1) (hok : pOk V (swP W.2.1 i j)) {p q : Nat} (c1 : W.1 i = 2) (c2 : W.1 j = 2) (hpl : W.2.1 i = some p) (hql : W.2.1 j = some q) : sI (vN V) (vP V) (fup (fup W.1 i 2) j 2) (swP W.2.1 i j) := by
  intro s hs
  have hss : fup (fup W.1 i 2) j 2 s = W.1 s := by
    unfold fup
    by_cases a : s = j
    · rw [if_pos a, a, c2]
    · rw [if_neg a]
      by_cases b : s = i
      · rw [if_pos b, b, c1]
      · rw [if_neg b]
  rw [hss]
  refine ⟨(hI s hs).1, ?_, (hok s hs).1, (hI s hs).2.2.2.1, (hok s hs).2.2⟩
  rw [← (hI s hs).2.1]
  unfold swP fup
  by_cases a : s = j
  · rw [if_pos a, hpl, a, hql]; exact Iff.rfl
  · rw [if_neg a]
    by_cases b : s = i
    · rw [if_pos b, hql, b, hpl]; exact Iff.rfl
    · rw [if_neg b]
theorem sw_n1 {V : sVal} {pl : Nat → Option Nat} {i j q : Nat} (hql : pl j = some q) (h : ¬ (sNear V (swP pl i j) i (vN V) &&& sn_sp (some q) = 0)) : ¬ swOk V pl i j = true := fun z => by
  unfold swOk at z; rw [hql, Bool.and_eq_true] at z; exact h (of_decide_eq_true z.1)
theorem sw_n2 {V : sVal} {pl : Nat → Option Nat} {i j p : Nat} (hpl : pl i = some p) (h : ¬ (sNear V (swP pl i j) j (vN V) &&& sn_sp (some p) = 0)) : ¬ swOk V pl i j = true := fun z => by
  unfold swOk at z; rw [hpl, Bool.and_eq_true] at z; exact h (of_decide_eq_true z.2)
theorem m_swI (d i x : Nat) (n : Nat) {V : sVal} {W : sWall} {μ : am_M2} (ν : am_N2) (hV : mVal μ V) (hO : vOk V) (hW : mWall μ 0 W) (hI : sI (vN V) (vP V) W.1 W.2.1) (ht : W.2.2 < 2 ^ 20) (hi : i < vN V) (Q : am_R → Prop) (K : ∀ μ1 o4 o5, fr μ μ1 → am_w (d + 3) (Option.some FieldType.int) am_g292 140 [some (.ref 133), some (.int (nI (lpF (fun b y => if W.1 i = 2 ∧ W.1 b = 2 ∧ swOk V W.2.1 i b = true then y + 1 else y) x i))), some (.int (nI i)), some (.int (nI i)), o4, o5] [] (am_hp n μ1 ν) Q) : ∀ (m j : Nat) (μ1 : am_M2) (o4 : Option Value) (o5 : Option Value), j + m = i → fr μ μ1 → am_w (d + 3) (Option.some FieldType.int) am_g292 19 [some (.ref 133), some (.int (nI (lpF (fun b y => if W.1 i = 2 ∧ W.1 b = 2 ∧ swOk V W.2.1 i b = true then y + 1 else y) x j))), some (.int (nI i)), some (.int (nI j)), o4, o5] [] (am_hp n μ1 ν) (Q) := by
  intro m
  induction m with
  | zero =>
    intro j μ1 o4 o5 hj hinv
    have h6 := hO.1.1
    have hP8 := hO.1.2.1
    have h8 := sI_8 hO hI
    have hpk := sI_p hI
    refine am_q_iload_n rfl rfl ?_
    refine am_q_iload_n rfl rfl ?_
    refine am_q_igeN rfl (by omega) (by omega) (fun c_21 => ?_) (fun c_21 => absurd c_21 (by omega))
    rw [show j = i by omega]
    exact K _ _ _ hinv
  | succ m ih =>
    intro j μ1 o4 o5 hj hinv
    have h6 := hO.1.1
    have hP8 := hO.1.2.1
    have h8 := sI_8 hO hI
    have hpk := sI_p hI
    have hV0 := mVal_fr hinv hV
    have hW0 := mWall_fr hinv (by decide) hW
    have k1 := hI i (by omega)
    have k2 := hI j (by omega)
    have k14 := k1.1
    have k24 := k2.1
    refine am_q_iload_n rfl rfl ?_
    refine am_q_iload_n rfl rfl ?_
    refine am_q_igeN rfl (by omega) (by omega) (fun c_21 => absurd c_21 (by omega)) (fun c_21 => ?_)
    refine am_q_aload_n rfl rfl ?_
    refine am_q_iconst (v := nI 0) rfl rfl ?_
    refine am_q_iload_n rfl rfl ?_
    refine am_q_call rfl rfl (m_isNowW _ n ν 0 (by decide) hW0 _ (by omega)) rfl ?_
    refine am_q_iconst (v := nI 2) rfl rfl ?_
    refine am_q_ineN rfl (by omega) (by omega) (fun c_31 => ?_) (fun c_31 => ?_)
    · have hn : ¬ (W.1 i = 2 ∧ W.1 j = 2 ∧ swOk V W.2.1 i j = true) := fun z => c_31 z.1
      refine am_q_iinc [some _, some _, some _, some _, _, _] rfl (c := nI 1) rfl rfl (Nat.le_of_ble_eq_true rfl) (nI_add _ _) rfl ?_
      refine am_q_goto rfl ?_
      first | (have e := ih (j + 1) _ (some (.int (nI p))) (some (.int (nI q))) (by omega) hf3; rw [swI_s, if_pos hy] at e; exact e) | (have e := ih (j + 1) _ (some (.int (nI p))) (some (.int (nI q))) (by omega) hf3; rw [swI_s, if_neg hn] at e; exact e) | (have e := ih (j + 1) _ o4 o5 (by omega) hinv; rw [swI_s, if_neg hn] at e; exact e)
    · refine am_q_aload_n rfl rfl ?_
      refine am_q_iconst (v := nI 0) rfl rfl ?_
      refine am_q_iload_n rfl rfl ?_
      refine am_q_call rfl rfl (m_isNowW _ n ν 0 (by decide) hW0 _ (by omega)) rfl ?_
      refine am_q_iconst (v := nI 2) rfl rfl ?_
      refine am_q_ineN rfl (by omega) (by omega) (fun c_41 => ?_) (fun c_41 => ?_)
      · have hn : ¬ (W.1 i = 2 ∧ W.1 j = 2 ∧ swOk V W.2.1 i j = true) := fun z => c_41 z.2.1
        refine am_q_iinc [some _, some _, some _, some _, _, _] rfl (c := nI 1) rfl rfl (Nat.le_of_ble_eq_true rfl) (nI_add _ _) rfl ?_
        refine am_q_goto rfl ?_
        first | (have e := ih (j + 1) _ (some (.int (nI p))) (some (.int (nI q))) (by omega) hf3; rw [swI_s, if_pos hy] at e; exact e) | (have e := ih (j + 1) _ (some (.int (nI p))) (some (.int (nI q))) (by omega) hf3; rw [swI_s, if_neg hn] at e; exact e) | (have e := ih (j + 1) _ o4 o5 (by omega) hinv; rw [swI_s, if_neg hn] at e; exact e)
      · obtain ⟨p, hpl⟩ := Option.isSome_iff_exists.mp (k1.2.1.mpr c_31)
        obtain ⟨q, hql⟩ := Option.isSome_iff_exists.mp (k2.2.1.mpr c_41)
        have hp8 := h8 i (by omega) p hpl
        have hq8 := h8 j (by omega) q hql
        have hok := swP_ok hpk (i := i) (j := j) (by omega) (by omega) h6
        have hsw : swP W.2.1 i j = fup (fup W.2.1 i (some q)) j (some p) := by unfold swP; rw [hpl, hql]
        have hI2 := sw_I hI hok c_31 c_41 hpl hql
        refine am_q_aload_n rfl rfl ?_
        refine am_q_gr rfl rfl rfl ?_
        refine am_q_bipush (v := nI 7) rfl rfl ?_
        refine am_q_iload_n rfl rfl ?_
        refine am_q_iadd rfl (nI_add _ _) ?_
        refine am_q_iald rfl rfl (am_ix_nI (show 7 + i < 836 by omega) (by decide)) (show _ = nI p from by rw [show 7 + i = 0 + 7 + i by omega, (hW0.2 i (by omega)).2, hpl]; rfl) ?_
        refine am_q_istore [some _, some _, some _, some _, some _, _] rfl (Nat.le_of_ble_eq_true rfl) rfl ?_
        refine am_q_aload_n rfl rfl ?_
        refine am_q_gr rfl rfl rfl ?_
        refine am_q_bipush (v := nI 7) rfl rfl ?_
        refine am_q_iload_n rfl rfl ?_
        refine am_q_iadd rfl (nI_add _ _) ?_
        refine am_q_iald rfl rfl (am_ix_nI (show 7 + j < 836 by omega) (by decide)) (show _ = nI q from by rw [show 7 + j = 0 + 7 + j by omega, (hW0.2 j (by omega)).2, hql]; rfl) ?_
        refine am_q_istore [some _, some _, some _, some _, some _, some _] rfl (Nat.le_of_ble_eq_true rfl) rfl ?_
        refine am_q_aload_n rfl rfl ?_
        obtain ⟨μ2, hc2, hf2, hW2⟩ := m_tries _ n ν hW0
        refine am_q_call rfl rfl (hc2) rfl ?_
        refine am_q_aload_n rfl rfl ?_
        refine am_q_sipush (v := nI 798) rfl rfl ?_
        refine am_q_iload_n rfl rfl ?_
        refine am_q_iload rfl rfl ?_
        refine am_q_call rfl rfl (m_stand _ n 798 i (by decide) (by omega) _ _ _) rfl ?_
        refine am_q_aload_n rfl rfl ?_
        refine am_q_sipush (v := nI 798) rfl rfl ?_
        refine am_q_iload_n rfl rfl ?_
        refine am_q_iload rfl rfl ?_
        refine am_q_call rfl rfl (m_stand _ n 798 j (by decide) (by omega) _ _ _) rfl ?_
        have hW3 := mWall_set (s := j) (x := 2) (q := some p) (by omega) rfl rfl (mWall_set (s := i) (x := 2) (q := some q) (by omega) rfl rfl hW2)
        have hf3 := fr_tr (fr_tr hinv hf2) (fr_tr (fr_B (frB_up2 (s := i) (v := nI 2) (u := nI q) (by omega))) (fr_B (frB_up2 (s := j) (v := nI 2) (u := nI p) (by omega))))
        have hV3 := mVal_fr hf3 hV
        have hpk2 := sI_p (W := (fup (fup W.1 i 2) j 2, swP W.2.1 i j, W.2.2)) hI2
        rw [hsw] at hI2
        have hm1 := mBe_64 h6 hpk2 q
        have hm2 := mBe_64 h6 hpk2 p
        have hfi := vFo_lt hO (show i < vN V by omega)
        have hfj := vFo_lt hO (show j < vN V by omega)
        simp only [hsw] at hm1 hm2
        have hA : ∀ s r, (mBe (fup (fup W.2.1 i (some q)) j (some p)) r (vN V) &&& vFo V s = 0) ↔ (sNear V (swP W.2.1 i j) s (vN V) &&& sn_sp (some r) = 0) := fun s r => by rw [sp_and, ← mAdj_0, ← mBe_adj h6 hpk2]; simp only [hsw]
        refine am_q_iload_n rfl rfl ?_
        refine am_q_aload_n rfl rfl ?_
        refine am_q_sipush (v := nI 798) rfl rfl ?_
        refine am_q_iload rfl rfl ?_
        refine am_q_call rfl rfl (m_besideOf _ n ν hV3 hO 798 (by decide) hW3 hI2 q (by omega)) rfl ?_
        refine am_q_aload_n rfl rfl ?_
        refine am_q_iload_n rfl rfl ?_
        refine am_q_call rfl rfl (m_hurtBy _ n ν hV3 hO i (by omega)) rfl ?_
        refine am_q_iand rfl (sn_and _ _) ?_
        refine am_q_zneN rfl (Nat.lt_of_le_of_lt Nat.and_le_right (by omega)) (fun c_106 => ?_) (fun c_106 => ?_)
        · have hn : ¬ (W.1 i = 2 ∧ W.1 j = 2 ∧ swOk V W.2.1 i j = true) := fun z => sw_n1 hql (fun y => c_106 ((hA i q).mpr y)) z.2.2
          refine am_q_iconst (v := nI 0) rfl rfl ?_
          refine am_q_iadd rfl (nI_add _ _) ?_
          refine am_q_istore_n [some _, some _, some _, some _, some _, some _] rfl (Nat.le_of_ble_eq_true rfl) rfl ?_
          refine am_q_iinc [some _, some _, some _, some _, some _, some _] rfl (c := nI 1) rfl rfl (Nat.le_of_ble_eq_true rfl) (nI_add _ _) rfl ?_
          refine am_q_goto rfl ?_
          first | (have e := ih (j + 1) _ (some (.int (nI p))) (some (.int (nI q))) (by omega) hf3; rw [swI_s, if_pos hy] at e; exact e) | (have e := ih (j + 1) _ (some (.int (nI p))) (some (.int (nI q))) (by omega) hf3; rw [swI_s, if_neg hn] at e; exact e) | (have e := ih (j + 1) _ o4 o5 (by omega) hinv; rw [swI_s, if_neg hn] at e; exact e)
        · refine am_q_aload_n rfl rfl ?_
          refine am_q_sipush (v := nI 798) rfl rfl ?_
          refine am_q_iload rfl rfl ?_
          refine am_q_call rfl rfl (m_besideOf _ n ν hV3 hO 798 (by decide) hW3 hI2 p (by omega)) rfl ?_
          refine am_q_aload_n rfl rfl ?_
          refine am_q_iload_n rfl rfl ?_
          refine am_q_call rfl rfl (m_hurtBy _ n ν hV3 hO j (by omega)) rfl ?_
          refine am_q_iand rfl (sn_and _ _) ?_
          refine am_q_zneN rfl (Nat.lt_of_le_of_lt Nat.and_le_right (by omega)) (fun c_124 => ?_) (fun c_124 => ?_)
          · have hn : ¬ (W.1 i = 2 ∧ W.1 j = 2 ∧ swOk V W.2.1 i j = true) := fun z => sw_n2 hpl (fun y => c_124 ((hA j p).mpr y)) z.2.2
            refine am_q_iconst (v := nI 0) rfl rfl ?_
            refine am_q_iadd rfl (nI_add _ _) ?_
            refine am_q_istore_n [some _, some _, some _, some _, some _, some _] rfl (Nat.le_of_ble_eq_true rfl) rfl ?_
            refine am_q_iinc [some _, some _, some _, some _, some _, some _] rfl (c := nI 1) rfl rfl (Nat.le_of_ble_eq_true rfl) (nI_add _ _) rfl ?_
            refine am_q_goto rfl ?_
            first | (have e := ih (j + 1) _ (some (.int (nI p))) (some (.int (nI q))) (by omega) hf3; rw [swI_s, if_pos hy] at e; exact e) | (have e := ih (j + 1) _ (some (.int (nI p))) (some (.int (nI q))) (by omega) hf3; rw [swI_s, if_neg hn] at e; exact e) | (have e := ih (j + 1) _ o4 o5 (by omega) hinv; rw [swI_s, if_neg hn] at e; exact e)
          · have hy : W.1 i = 2 ∧ W.1 j = 2 ∧ swOk V W.2.1 i j = true := ⟨c_31, c_41, by unfold swOk; rw [hpl, hql, decide_eq_true ((hA i q).mp c_106), decide_eq_true ((hA j p).mp c_124)]; rfl⟩
            refine am_q_iconst (v := nI 1) rfl rfl ?_
            refine am_q_goto rfl ?_
            refine am_q_iadd rfl (nI_add _ _) ?_
            refine am_q_istore_n [some _, some _, some _, some _, some _, some _] rfl (Nat.le_of_ble_eq_true rfl) rfl ?_
            refine am_q_iinc [some _, some _, some _, some _, some _, some _] rfl (c := nI 1) rfl rfl (Nat.le_of_ble_eq_true rfl) (nI_add _ _) rfl ?_
            refine am_q_goto rfl ?_
            first | (have e := ih (j + 1) _ (some (.int (nI p))) (some (.int (nI q))) (by omega) hf3; rw [swI_s, if_pos hy] at e; exact e) | (have e := ih (j + 1) _ (some (.int (nI p))) (some (.int (nI q))) (by omega) hf3; rw [swI_s, if_neg hn] at e; exact e) | (have e := ih (j + 1) _ o4 o5 (by omega) hinv; rw [swI_s, if_neg hn] at e; exact e)

theorem m_swL (d : Nat) (n : Nat) {V : sVal} {W : sWall} {μ : am_M2} (ν : am_N2) (hV : mVal μ V) (hO : vOk V) (hW : mWall μ 0 W) (hI : sI (vN V) (vP V) W.1 W.2.1) (ht : W.2.2 < 2 ^ 20) : ∀ (m j : Nat) (μ1 : am_M2) (o3 : Option Value) (o4 : Option Value) (o5 : Option Value), j + m = vN V → fr μ μ1 → am_w (d + 3) (Option.some FieldType.int) am_g292 9 [some (.ref 133), some (.int (nI (sSwaps V W j))), some (.int (nI j)), o3, o4, o5] [] (am_hp n μ1 ν) (fun y => ∃ (μ' : am_M2), y = (some (.int (nI (sSwaps V W (vN V)))), am_hp n μ' ν) ∧ fr μ μ') := by
  intro m
  induction m with
  | zero =>
    intro j μ1 o3 o4 o5 hj hinv
    have h6 := hO.1.1
    have hP8 := hO.1.2.1
    have h8 := sI_8 hO hI
    have hpk := sI_p hI
    have hV0 := mVal_fr hinv hV
    refine am_q_iload_n rfl rfl ?_
    refine am_q_aload_n rfl rfl ?_
    refine am_q_call rfl rfl (m_souls _ _ _ hV0) rfl ?_
    refine am_q_igeN rfl (by omega) (by omega) (fun c_14 => ?_) (fun c_14 => absurd c_14 (by omega))
    refine am_q_iload_n rfl rfl ?_
    refine am_q_ireturn rfl rfl rfl ?_
    rw [show j = vN V by omega]
    exact ⟨_, rfl, hinv⟩
  | succ m ih =>
    intro j μ1 o3 o4 o5 hj hinv
    have h6 := hO.1.1
    have hP8 := hO.1.2.1
    have h8 := sI_8 hO hI
    have hpk := sI_p hI
    have hV0 := mVal_fr hinv hV
    refine am_q_iload_n rfl rfl ?_
    refine am_q_aload_n rfl rfl ?_
    refine am_q_call rfl rfl (m_souls _ _ _ hV0) rfl ?_
    refine am_q_igeN rfl (by omega) (by omega) (fun c_14 => absurd c_14 (by omega)) (fun c_14 => ?_)
    refine am_q_iconst (v := nI 0) rfl rfl ?_
    refine am_q_istore_n [some _, some _, some _, some _, _, _] rfl (Nat.le_of_ble_eq_true rfl) rfl ?_
    refine m_swI d j (sSwaps V W j) n ν hV hO hW hI ht (by omega) _ (fun μ2 p4 p5 hf => ?_) j 0 _ _ _ (by omega) hinv
    rw [← sSw_s]
    refine am_q_iinc [some _, some _, some _, some _, _, _] rfl (c := nI 1) rfl rfl (Nat.le_of_ble_eq_true rfl) (nI_add _ _) rfl ?_
    refine am_q_goto rfl ?_
    exact ih (j + 1) _ _ _ _ (by omega) hf

/-- StoneSecretsModel.swaps()I -/
theorem m_swaps (d : Nat) (n : Nat) {V : sVal} {W : sWall} {μ : am_M2} (ν : am_N2) (hV : mVal μ V) (hO : vOk V) (hW : mWall μ 0 W) (hI : sI (vN V) (vP V) W.1 W.2.1) (ht : W.2.2 < 2 ^ 20) : ∃ (μ' : am_M2), am_run (d + 4) 292 [.ref 133] (am_hp n μ ν) = some (some (.int (nI (sSwaps V W (vN V)))), am_hp n μ' ν) ∧ fr μ μ' := by
  have key : ∃ r, am_run (d + 4) 292 [.ref 133] (am_hp n μ ν) = some r ∧ ∃ (μ' : am_M2), r = (some (.int (nI (sSwaps V W (vN V)))), am_hp n μ' ν) ∧ fr μ μ' := am_run_wE (k := 292) (d := d + 3) rfl rfl (Nat.le_of_ble_eq_true rfl) [some (.ref 133), none, none, none, none, none] rfl (by
    refine am_q_aload_n rfl rfl ?_
    refine am_q_iconst (v := nI 0) rfl rfl ?_
    refine am_q_pi rfl rfl rfl (Or.inl rfl) ?_
    refine am_q_iconst (v := nI 0) rfl rfl ?_
    refine am_q_istore_n [some _, some _, none, none, none, none] rfl (Nat.le_of_ble_eq_true rfl) rfl ?_
    refine am_q_iconst (v := nI 0) rfl rfl ?_
    refine am_q_istore_n [some _, some _, some _, none, none, none] rfl (Nat.le_of_ble_eq_true rfl) rfl ?_
    exact m_swL d n ν hV hO hW hI ht (vN V) 0 _ none none none (by omega) (fr_thr μ))
  obtain ⟨r, h1, μ', h2, h3⟩ := key
  exact ⟨μ', by rw [h1, h2], h3⟩
