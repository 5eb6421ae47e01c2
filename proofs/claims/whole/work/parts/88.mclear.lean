def wC_ (V : sVal) (W : sWall) (b : Nat) : sWall := (fun s => if b.testBit s = true then 1 else W.1 s, stP W.2.1 (sSt V W &&& (2 ^ 32 - (b + 1))), W.2.2)
theorem wC_pl {V : sVal} {W : sWall} {b s : Nat} (hI : sI (vN V) (vP V) W.1 W.2.1) (hb : b < 64) (hs : s < 6) : (wC_ V W b).2.1 s = if b.testBit s = true then none else W.2.1 s := by
  show stP W.2.1 (sSt V W &&& (2 ^ 32 - (b + 1))) s = _
  unfold stP
  rw [andn_tb (by omega) (by omega)]
  cases h : b.testBit s with
  | true => rw [Bool.not_true, Bool.and_false]; rfl
  | false => rw [Bool.not_false, Bool.and_true, if_neg Bool.false_ne_true]; exact stP_eq hI hs
theorem wC_I {V : sVal} {W : sWall} {b : Nat} (hI : sI (vN V) (vP V) W.1 W.2.1) (hb : b < 64) (hN : ∀ s, b.testBit s = true → s < vN V) : sI (vN V) (vP V) (wC_ V W b).1 (wC_ V W b).2.1 := fun s hs => by
  obtain ⟨h1, h2, h3, h4, h5⟩ := hI s hs
  rw [wC_pl hI hb hs]
  show (if b.testBit s = true then 1 else W.1 s) ≤ 4 ∧ (_ ↔ (if b.testBit s = true then 1 else W.1 s) = 2) ∧ _ ∧ (_ → (if b.testBit s = true then 1 else W.1 s) = 0) ∧ _
  cases h : b.testBit s with
  | true =>
    have := hN s h
    exact ⟨by rw [if_pos rfl]; decide, ⟨fun z => (by cases z), fun z => (by cases z)⟩, fun p z => (by cases z), fun z => by omega, fun s' _ _ z => absurd rfl z⟩
  | false =>
    refine ⟨h1, h2, h3, h4, fun s' hs' hne hq => ?_⟩
    rw [wC_pl hI hb hs']
    cases h' : b.testBit s' with
    | true => exact hq
    | false => exact h5 s' hs' hne hq
theorem mWall_cong {μ : am_M2} {b : Nat} {W W' : sWall} (ht : W'.2.2 = W.2.2) (h : ∀ s, s < 6 → W'.1 s = W.1 s ∧ W'.2.1 s = W.2.1 s) (hW : mWall μ b W) : mWall μ b W' := ⟨by rw [ht]; exact hW.1, fun s hs => by rw [(h s hs).1, (h s hs).2]; exact hW.2 s hs⟩
theorem clS_64 {V : sVal} {W : sWall} (h : sSt V W < 64) : clS V W 64 = clS V W (sSt V W + 1) := by
  have := lpF_more (f := fun j b => if (∀ x, b = some x → sn_bc j < sn_bc x) ∧ j &&& sSt V W = j ∧ anyC V W j = true then some j else b) (a := none) (n := sSt V W + 1) (63 - sSt V W) (fun k x h1 h2 => if_neg (fun z => by have := and_le' z.2.1; omega))
  rw [show sSt V W + 1 + (63 - sSt V W) = 64 by omega] at this
  exact this
theorem m_cleI (d b x y : Nat) (be : Int32) (n : Nat) {V : sVal} {W : sWall} {μ : am_M2} (ν : am_N2) (hV : mVal μ V) (hO : vOk V) (hI : sI (vN V) (vP V) W.1 W.2.1) (hb : b < 64) (hN : ∀ s, b.testBit s = true → s < vN V) (Q : am_R → Prop) (K : ∀ μ1 o5, frB 798 μ μ1 → mWall μ1 798 (wC_ V W b) → am_w (d + 11) (Option.some FieldType.int) am_g277 105 [some (.ref 133), some (.int (nI x)), some (.int (nI y)), some (.int be), some (.int (nI b)), o5] [] (am_hp n μ1 ν) Q) : ∀ (m j : Nat) (μ1 : am_M2), j + m = vN V → frB 798 μ μ1 ∧ mWall μ1 798 (pt (wC_ V W b).1 W.1 j, pt (wC_ V W b).2.1 W.2.1 j, W.2.2) → am_w (d + 11) (Option.some FieldType.int) am_g277 69 [some (.ref 133), some (.int (nI x)), some (.int (nI y)), some (.int be), some (.int (nI b)), some (.int (nI j))] [] (am_hp n μ1 ν) (Q) := by
  intro m
  induction m with
  | zero =>
    intro j μ1 hj hinv
    have h6 := hO.1.1
    have hV1 := mVal_B hinv.1 hV
    refine am_q_iload rfl rfl ?_
    refine am_q_aload_n rfl rfl ?_
    refine am_q_call rfl rfl (m_souls _ _ _ hV1) rfl ?_
    refine am_q_igeN rfl (by omega) (by omega) (fun c_75 => ?_) (fun c_75 => absurd c_75 (by omega))
    refine K μ1 _ hinv.1 (mWall_cong (W := (pt (wC_ V W b).1 W.1 j, pt (wC_ V W b).2.1 W.2.1 j, W.2.2)) rfl (fun s hs => ?_) hinv.2)
    show (wC_ V W b).1 s = pt (wC_ V W b).1 W.1 j s ∧ (wC_ V W b).2.1 s = pt (wC_ V W b).2.1 W.2.1 j s
    unfold pt
    by_cases z : s < j
    · rw [if_pos z, if_pos z]; exact ⟨rfl, rfl⟩
    · rw [if_neg z, if_neg z, wC_pl hI hb hs]
      have hbz : b.testBit s = false := by
        rw [Bool.eq_false_iff]; intro q; have := hN s q; omega
      show (if b.testBit s = true then 1 else W.1 s) = _ ∧ _
      rw [hbz]; exact ⟨rfl, rfl⟩
  | succ m ih =>
    intro j μ1 hj hinv
    have h6 := hO.1.1
    have hV1 := mVal_B hinv.1 hV
    have hpl := wC_pl (V := V) (s := j) hI hb (by omega)
    refine am_q_iload rfl rfl ?_
    refine am_q_aload_n rfl rfl ?_
    refine am_q_call rfl rfl (m_souls _ _ _ hV1) rfl ?_
    refine am_q_igeN rfl (by omega) (by omega) (fun c_75 => absurd c_75 (by omega)) (fun c_75 => ?_)
    refine am_q_iload rfl rfl ?_
    refine am_q_iload rfl rfl ?_
    refine am_q_ishr rfl (sn_shr (by omega) (by omega)) ?_
    refine am_q_iconst (v := nI 1) rfl rfl ?_
    refine am_q_iand rfl (show nI (b / 2 ^ j) &&& nI 1 = nI (b / 2 ^ j % 2) from fa_mask _ 1) ?_
    refine am_q_iconst (v := nI 1) rfl rfl ?_
    refine am_q_ineN rfl (by omega) (by omega) (fun c_86 => ?_) (fun c_86 => ?_)
    · have hz := (tb_0 b j).mp c_86
      rw [hz, if_neg Bool.false_ne_true] at hpl
      have h1 : (wC_ V W b).1 j = W.1 j := by show (if b.testBit j = true then 1 else W.1 j) = _; rw [hz]; rfl
      have e := ih (j + 1) μ1 (by omega) ⟨hinv.1, by rw [← pt_k h1, ← pt_k hpl]; exact hinv.2⟩
      refine am_q_iinc [some _, some _, some _, some _, some _, some _] rfl (c := nI 1) rfl rfl (Nat.le_of_ble_eq_true rfl) (nI_add _ _) rfl ?_
      refine am_q_goto rfl ?_
      exact e
    · have hz := (tb_1 b j).mp c_86
      rw [if_pos hz] at hpl
      have h1 : (wC_ V W b).1 j = 1 := if_pos hz
      have e := ih (j + 1) _ (by omega) ⟨frB_tr hinv.1 (frB_up2 (v := nI 1) (u := -1) (s := j) (by omega)), by rw [← pt_s h1, ← pt_s hpl]; exact mWall_set (s := j) (x := 1) (q := none) (by omega) rfl rfl hinv.2⟩
      refine am_q_aload_n rfl rfl ?_
      refine am_q_sipush (v := nI 798) rfl rfl ?_
      refine am_q_iload rfl rfl ?_
      refine am_q_iconst (v := nI 1) rfl rfl ?_
      refine am_q_call rfl rfl (m_leave _ n 798 j (by decide) (by omega) _ _ _) rfl ?_
      refine am_q_iinc [some _, some _, some _, some _, some _, some _] rfl (c := nI 1) rfl rfl (Nat.le_of_ble_eq_true rfl) (nI_add _ _) rfl ?_
      refine am_q_goto rfl ?_
      exact e

theorem m_cleT (d b x y : Nat) (be : Int32) (n : Nat) {V : sVal} {W : sWall} {μ : am_M2} (ν : am_N2) (a : Bool) (hr : am_run (d + 11) 275 [.ref 133, .int (nI 798), .int (nI (b ||| y))] (am_hp n μ ν) = some (some (.int (sB a)), am_hp n μ ν)) (o5 : Option Value) (Q : am_R → Prop) (K1 : a = true → am_w (d + 11) (Option.some FieldType.int) am_g277 31 [some (.ref 133), some (.int (nI x)), some (.int (nI y)), some (.int (nI b)), some (.int (nI (b + 1))), o5] [] (am_hp n μ ν) Q) (K2 : a = false → am_w (d + 11) (Option.some FieldType.int) am_g277 31 [some (.ref 133), some (.int (nI x)), some (.int (nI y)), some (.int be), some (.int (nI (b + 1))), o5] [] (am_hp n μ ν) Q) : am_w (d + 11) (Option.some FieldType.int) am_g277 105 [some (.ref 133), some (.int (nI x)), some (.int (nI y)), some (.int be), some (.int (nI b)), o5] [] (am_hp n μ ν) (Q) := by
  refine am_q_aload_n rfl rfl ?_
  refine am_q_sipush (v := nI 798) rfl rfl ?_
  refine am_q_iload rfl rfl ?_
  refine am_q_iload_n rfl rfl ?_
  refine am_q_ior rfl (sn_or _ _) ?_
  refine am_q_call rfl rfl (hr) rfl ?_
  refine am_q_if_eqB rfl (fun c_116 => ?_) (fun c_116 => ?_)
  · refine am_q_iload_n rfl rfl ?_
    refine am_q_istore_n [some _, some _, some _, some _, some _, _] rfl (Nat.le_of_ble_eq_true rfl) rfl ?_
    refine am_q_iinc [some _, some _, some _, some _, some _, _] rfl (c := nI 1) rfl rfl (Nat.le_of_ble_eq_true rfl) (nI_add _ _) rfl ?_
    refine am_q_goto rfl ?_
    first | exact K1 c_116 | exact K2 c_116
  · refine am_q_iload rfl rfl ?_
    refine am_q_goto rfl ?_
    refine am_q_istore_n [some _, some _, some _, some _, some _, _] rfl (Nat.le_of_ble_eq_true rfl) rfl ?_
    refine am_q_iinc [some _, some _, some _, some _, some _, _] rfl (c := nI 1) rfl rfl (Nat.le_of_ble_eq_true rfl) (nI_add _ _) rfl ?_
    refine am_q_goto rfl ?_
    first | exact K1 c_116 | exact K2 c_116

theorem m_cleL (d : Nat) (n : Nat) {V : sVal} {W : sWall} {μ : am_M2} (ν : am_N2) (hV : mVal μ V) (hO : vOk V) (hW : mWall μ 0 W) (hI : sI (vN V) (vP V) W.1 W.2.1) (ht : W.2.2 < 2 ^ 20) : ∀ (m j : Nat) (μ1 : am_M2) (o5 : Option Value), j + m = sSt V W + 1 → fr μ μ1 → am_w (d + 11) (Option.some FieldType.int) am_g277 31 [some (.ref 133), some (.int (nI (sSt V W))), some (.int (nI (sLo V W))), some (.int (sn_place (clS V W j))), some (.int (nI j)), o5] [] (am_hp n μ1 ν) (fun y => ∃ (μ' : am_M2), y = (some (.int (sn_place (clS V W 64))), am_hp n μ' ν) ∧ fr μ μ') := by
  intro m
  induction m with
  | zero =>
    intro j μ1 o5 hj hinv
    have h6 := hO.1.1
    have hlo : sLo V W < 64 := sn_64 h6
    have hst : sSt V W < 64 := sn_64 h6
    refine am_q_iload rfl rfl ?_
    refine am_q_iload_n rfl rfl ?_
    refine am_q_igtN rfl (by omega) (by omega) (fun c_34 => ?_) (fun c_34 => absurd c_34 (by omega))
    refine am_q_iload_n rfl rfl ?_
    refine am_q_ireturn rfl rfl rfl ?_
    rw [clS_64 hst, ← show j = sSt V W + 1 by omega]
    exact ⟨_, rfl, hinv⟩
  | succ m ih =>
    intro j μ1 o5 hj hinv
    have h6 := hO.1.1
    have hlo : sLo V W < 64 := sn_64 h6
    have hst : sSt V W < 64 := sn_64 h6
    have hV1 := mVal_fr hinv hV
    have hW1 := mWall_fr hinv (by decide) hW
    have hcl := clS_lt V W j
    have hb1 := sn_bc_le j (by omega)
    refine am_q_iload rfl rfl ?_
    refine am_q_iload_n rfl rfl ?_
    refine am_q_igtN rfl (by omega) (by omega) (fun c_34 => absurd c_34 (by omega)) (fun c_34 => ?_)
    refine am_q_iload rfl rfl ?_
    refine am_q_iload_n rfl rfl ?_
    refine am_q_iconst (v := -1) rfl rfl ?_
    refine am_q_ixor rfl rfl ?_
    refine am_q_iand rfl rfl ?_
    refine am_q_if_ne rfl (fun c_43 => ?_) (fun c_43 => ?_)
    · have hsb : ¬ j &&& sSt V W = j := fun z => c_43 ((sn_not j (by omega) _ hst).mpr z)
      have e := ih (j + 1) μ1 o5 (by omega) hinv
      rw [clS_n (fun z => hsb z.2.1)] at e
      refine am_q_iinc [some _, some _, some _, some _, some _, _] rfl (c := nI 1) rfl rfl (Nat.le_of_ble_eq_true rfl) (nI_add _ _) rfl ?_
      refine am_q_goto rfl ?_
      exact e
    · have hsb : j &&& sSt V W = j := (sn_not j (by omega) _ hst).mp c_43
      have hjN : ∀ s, j.testBit s = true → s < vN V := fun s hs => sSt_N (and_sub hsb hs)
      refine am_q_iload_n rfl rfl ?_
      refine am_q_if_lt rfl (fun c_47 => ?_) (fun c_47 => ?_)
      · have hn := i_nge (fun z hz => by have := hcl z hz; omega) c_47
        have hcb : (∀ x, clS V W j = some x → sn_bc j < sn_bc x) := fun x hx => by rw [hn] at hx; cases hx
        refine am_q_aload_n rfl rfl ?_
        obtain ⟨μ2, hc2, hf2, hW2⟩ := m_tries _ n ν hW1
        refine am_q_call rfl rfl (hc2) rfl ?_
        refine am_q_iconst (v := nI 0) rfl rfl ?_
        refine am_q_istore [some _, some _, some _, some _, some _, some _] rfl (Nat.le_of_ble_eq_true rfl) rfl ?_
        refine m_cleI d j (sSt V W) (sLo V W) _ n ν (mVal_fr hf2 hV1) hO hI (by omega) hjN _ (fun μ3 p5 hf3 hW3 => ?_) (vN V) 0 μ2 (by omega) ⟨frB_rf _ _, by rw [pt_0, pt_0]; exact hW2⟩
        have hf4 := fr_tr (fr_tr hinv hf2) (fr_B hf3)
        have hor : j ||| sLo V W < 64 := Nat.or_lt_two_pow (n := 6) (by omega) hlo
        have hcc : am_run (d + 11) 275 [.ref 133, .int (nI 798), .int (nI (j ||| sLo V W))] (am_hp n μ3 ν) = some (some (.int (sB (anyC V W j))), am_hp n μ3 ν) := by
          have := m_could d n (j ||| sLo V W) ν hO (wC_ V W j) μ3 hor ⟨mVal_fr hf4 hV, hW3, wC_I hI (by omega) hjN, fun s hs hb => by
            rw [wC_pl hI (by omega) hs]
            rw [Nat.testBit_or, Bool.or_eq_true] at hb
            cases hz : j.testBit s with
            | true => exact ⟨hjN s hz, rfl⟩
            | false =>
              rw [hz] at hb
              have hl : (sLo V W).testBit s = true := by rcases hb with q | q; cases q; exact q
              refine ⟨sLo_N s hl, ?_⟩
              rw [if_neg Bool.false_ne_true, ← stP_eq (V := V) hI hs]
              unfold stP; rw [sLoSt hl]; rfl⟩
          rw [show anyB V (j ||| sLo V W) (wC_ V W j).2.1 = anyC V W j by unfold anyB anyC; rw [Nat.or_comm]; rfl] at this
          exact this
        exact m_cleT d j (sSt V W) (sLo V W) _ n (V := V) (W := W) ν (anyC V W j) hcc p5 _ (fun a => by have e := ih (j + 1) μ3 p5 (by omega) hf4; rw [clS_y ⟨hcb, hsb, a⟩] at e; exact e) (fun a => by have e := ih (j + 1) μ3 p5 (by omega) hf4; rw [clS_n (fun z => by rw [a] at z; cases z.2.2)] at e; exact e)
      · obtain ⟨i, hi⟩ := i_ge (fun z hz => by have := hcl z hz; omega) c_47
        have hij := hcl i hi
        have hb2 := sn_bc_le i (by omega)
        refine am_q_iload rfl rfl ?_
        refine am_q_call rfl rfl (m_bits _ j (by omega) _) rfl ?_
        refine am_q_iload_n rfl rfl ?_
        refine am_q_call rfl rfl ((show am_run _ _ [.int (sn_place (clS V W j))] _ = some (some (.int (nI (sn_bc i))), _) by rw [hi]; exact m_bits _ i (by omega) _)) rfl ?_
        refine am_q_igeN rfl (by omega) (by omega) (fun c_59 => ?_) (fun c_59 => ?_)
        · have e := ih (j + 1) μ1 o5 (by omega) hinv
          rw [clS_n (fun z => by have := z.1 i hi; omega)] at e
          refine am_q_iinc [some _, some _, some _, some _, some _, _] rfl (c := nI 1) rfl rfl (Nat.le_of_ble_eq_true rfl) (nI_add _ _) rfl ?_
          refine am_q_goto rfl ?_
          exact e
        · have hcb : (∀ x, clS V W j = some x → sn_bc j < sn_bc x) := fun x hx => by rw [hi] at hx; cases hx; exact c_59
          refine am_q_aload_n rfl rfl ?_
          obtain ⟨μ2, hc2, hf2, hW2⟩ := m_tries _ n ν hW1
          refine am_q_call rfl rfl (hc2) rfl ?_
          refine am_q_iconst (v := nI 0) rfl rfl ?_
          refine am_q_istore [some _, some _, some _, some _, some _, some _] rfl (Nat.le_of_ble_eq_true rfl) rfl ?_
          refine m_cleI d j (sSt V W) (sLo V W) _ n ν (mVal_fr hf2 hV1) hO hI (by omega) hjN _ (fun μ3 p5 hf3 hW3 => ?_) (vN V) 0 μ2 (by omega) ⟨frB_rf _ _, by rw [pt_0, pt_0]; exact hW2⟩
          have hf4 := fr_tr (fr_tr hinv hf2) (fr_B hf3)
          have hor : j ||| sLo V W < 64 := Nat.or_lt_two_pow (n := 6) (by omega) hlo
          have hcc : am_run (d + 11) 275 [.ref 133, .int (nI 798), .int (nI (j ||| sLo V W))] (am_hp n μ3 ν) = some (some (.int (sB (anyC V W j))), am_hp n μ3 ν) := by
            have := m_could d n (j ||| sLo V W) ν hO (wC_ V W j) μ3 hor ⟨mVal_fr hf4 hV, hW3, wC_I hI (by omega) hjN, fun s hs hb => by
              rw [wC_pl hI (by omega) hs]
              rw [Nat.testBit_or, Bool.or_eq_true] at hb
              cases hz : j.testBit s with
              | true => exact ⟨hjN s hz, rfl⟩
              | false =>
                rw [hz] at hb
                have hl : (sLo V W).testBit s = true := by rcases hb with q | q; cases q; exact q
                refine ⟨sLo_N s hl, ?_⟩
                rw [if_neg Bool.false_ne_true, ← stP_eq (V := V) hI hs]
                unfold stP; rw [sLoSt hl]; rfl⟩
            rw [show anyB V (j ||| sLo V W) (wC_ V W j).2.1 = anyC V W j by unfold anyB anyC; rw [Nat.or_comm]; rfl] at this
            exact this
          exact m_cleT d j (sSt V W) (sLo V W) _ n (V := V) (W := W) ν (anyC V W j) hcc p5 _ (fun a => by have e := ih (j + 1) μ3 p5 (by omega) hf4; rw [clS_y ⟨hcb, hsb, a⟩] at e; exact e) (fun a => by have e := ih (j + 1) μ3 p5 (by omega) hf4; rw [clS_n (fun z => by rw [a] at z; cases z.2.2)] at e; exact e)

/-- StoneSecretsModel.clear()I -/
theorem m_clear (d : Nat) (n : Nat) {V : sVal} {W : sWall} {μ : am_M2} (ν : am_N2) (hV : mVal μ V) (hO : vOk V) (hW : mWall μ 0 W) (hI : sI (vN V) (vP V) W.1 W.2.1) (ht : W.2.2 < 2 ^ 20) : ∃ (μ' : am_M2), am_run (d + 12) 277 [.ref 133] (am_hp n μ ν) = some (some (.int (sn_place (clS V W 64))), am_hp n μ' ν) ∧ fr μ μ' := by
  have h6 := hO.1.1
  have hP8 := hO.1.2.1
  have h8 := sI_8 hO hI
  have hpk := sI_p hI
  have hV0 := mVal_fr (fr_thr μ) hV
  have hW0 := mWall_fr (fr_thr μ) (by decide) hW
  have key : ∃ r, am_run (d + 12) 277 [.ref 133] (am_hp n μ ν) = some r ∧ ∃ (μ' : am_M2), r = (some (.int (sn_place (clS V W 64))), am_hp n μ' ν) ∧ fr μ μ' := am_run_wE (k := 277) (d := d + 11) rfl rfl (Nat.le_of_ble_eq_true rfl) [some (.ref 133), none, none, none, none, none] rfl (by
    refine am_q_aload_n rfl rfl ?_
    refine am_q_iconst (v := nI 0) rfl rfl ?_
    refine am_q_pi rfl rfl rfl (Or.inl rfl) ?_
    refine am_q_aload_n rfl rfl ?_
    refine am_q_iconst (v := nI 0) rfl rfl ?_
    refine am_q_iconst (v := nI 2) rfl rfl ?_
    refine am_q_call rfl rfl (m_who _ n ν hV0 hO 0 (by decide) hW0 hI 2 (by decide)) rfl ?_
    refine am_q_istore_n [some _, some _, none, none, none, none] rfl (Nat.le_of_ble_eq_true rfl) rfl ?_
    refine am_q_aload_n rfl rfl ?_
    refine am_q_iconst (v := nI 0) rfl rfl ?_
    refine am_q_iconst (v := nI 1) rfl rfl ?_
    refine am_q_call rfl rfl (m_who _ n ν hV0 hO 0 (by decide) hW0 hI 1 (by decide)) rfl ?_
    refine am_q_aload_n rfl rfl ?_
    refine am_q_iconst (v := nI 0) rfl rfl ?_
    refine am_q_iconst (v := nI 3) rfl rfl ?_
    refine am_q_call rfl rfl (m_who _ n ν hV0 hO 0 (by decide) hW0 hI 3 (by decide)) rfl ?_
    refine am_q_ior rfl ((sn_or _ _).trans (by rw [lo_or])) ?_
    refine am_q_istore_n [some _, some _, some _, none, none, none] rfl (Nat.le_of_ble_eq_true rfl) rfl ?_
    refine am_q_iconst (v := -1) rfl rfl ?_
    refine am_q_istore_n [some _, some _, some _, some _, none, none] rfl (Nat.le_of_ble_eq_true rfl) rfl ?_
    refine am_q_iconst (v := nI 0) rfl rfl ?_
    refine am_q_istore [some _, some _, some _, some _, some _, none] rfl (Nat.le_of_ble_eq_true rfl) rfl ?_
    exact m_cleL d n ν hV hO hW hI ht (sSt V W + 1) 0 _ none (by omega) (fr_thr μ))
  obtain ⟨r, h1, μ', h2, h3⟩ := key
  exact ⟨μ', by rw [h1, h2], h3⟩
