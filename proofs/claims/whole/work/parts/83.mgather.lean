theorem stP_eq {V : sVal} {W : sWall} (hI : sI (vN V) (vP V) W.1 W.2.1) {s : Nat} (hs : s < 6) : stP W.2.1 (sSt V W) s = W.2.1 s := by
  unfold stP
  by_cases h : (sSt V W).testBit s = true
  · rw [if_pos h]
  · rw [if_neg h]
    cases hq : W.2.1 s with
    | none => rfl
    | some p =>
      have k := hI s hs
      have h2 := k.2.1.mp (by rw [hq]; rfl)
      have hN : s < vN V := by
        by_cases z : s < vN V
        · exact z
        · have := k.2.2.2.1 (by omega); omega
      exact absurd (by unfold sSt; rw [sBits_tb, decide_eq_true hN, decide_eq_true h2]; rfl) h
def nrm (V : sVal) (W : sWall) : sWall := (W.1, stP W.2.1 (sSt V W), W.2.2)
theorem nrm_W {V : sVal} {W : sWall} {μ : am_M2} {b : Nat} (hI : sI (vN V) (vP V) W.1 W.2.1) (hW : mWall μ b W) : mWall μ b (nrm V W) := ⟨hW.1, fun s hs => ⟨(hW.2 s hs).1, by show _ = sn_place (stP W.2.1 (sSt V W) s); rw [stP_eq hI hs]; exact (hW.2 s hs).2⟩⟩
theorem nrm_I {V : sVal} {W : sWall} (hI : sI (vN V) (vP V) W.1 W.2.1) : sI (vN V) (vP V) (nrm V W).1 (nrm V W).2.1 := fun s hs => by
  obtain ⟨h1, h2, h3, h4, h5⟩ := hI s hs
  show W.1 s ≤ 4 ∧ ((stP W.2.1 (sSt V W) s).isSome = true ↔ W.1 s = 2) ∧ _
  have e := stP_eq (V := V) (W := W) hI hs
  refine ⟨h1, by rw [e]; exact h2, fun p hp => h3 p (e.symm.trans hp), h4, fun s' hs' hne hq => ?_⟩
  show stP W.2.1 (sSt V W) s ≠ stP W.2.1 (sSt V W) s'
  rw [e, stP_eq (V := V) (W := W) hI hs']
  exact h5 s' hs' hne (fun z => hq (e.trans z))
theorem waysOf_F {V : sVal} (h6 : vN V ≤ 6) (W : sWall) : waysOf V W = waysL V (mvF (nrm V W) 0 (vN V)) (nrm V W).2.1 := by
  unfold waysOf
  rw [mvL_F h6 W]
  rfl
theorem m_gat1 (d n : Nat) (μ : am_M2) (ν : am_N2) (x : Int32) (Q : am_R → Prop) (K : am_w (d + 14) (Option.none : Option FieldType) am_g258 56 [some (.ref 133), some (.int x), some (.int (nI 48))] [] (am_hp n (am_fl μ 147 (nI 0) 48) ν) Q) : ∀ (m j : Nat) , j + m = 48 → am_w (d + 14) (Option.none : Option FieldType) am_g258 37 [some (.ref 133), some (.int x), some (.int (nI j))] [] (am_hp n (am_fl μ 147 (nI 0) j) ν) (Q) := by
  intro m
  induction m with
  | zero =>
    intro j  hj
    refine am_q_iload_n rfl rfl ?_
    refine am_q_bipush (v := nI 48) rfl rfl ?_
    refine am_q_igeN rfl (by omega) (by omega) (fun c_40 => ?_) (fun c_40 => absurd c_40 (by omega))
    rw [show j = 48 by omega]
    exact K
  | succ m ih =>
    intro j  hj
    refine am_q_iload_n rfl rfl ?_
    refine am_q_bipush (v := nI 48) rfl rfl ?_
    refine am_q_igeN rfl (by omega) (by omega) (fun c_40 => absurd c_40 (by omega)) (fun c_40 => ?_)
    refine am_q_aload_n rfl rfl ?_
    refine am_q_gr rfl rfl rfl ?_
    refine am_q_iload_n rfl rfl ?_
    refine am_q_iconst (v := nI 0) rfl rfl ?_
    refine am_q_iast rfl rfl (by first | exact am_ix_nI (by omega) (by omega) | rfl) rfl ?_
    rw [am_fl_s]
    refine am_q_iinc [some _, some _, some _] rfl (c := nI 1) rfl rfl (Nat.le_of_ble_eq_true rfl) (nI_add _ _) rfl ?_
    refine am_q_goto rfl ?_
    exact ih (j + 1) (by omega)

theorem m_gat2 (d n : Nat) (μ : am_M2) (ν : am_N2) (x : Int32) (Q : am_R → Prop) (K : am_w (d + 14) (Option.none : Option FieldType) am_g258 78 [some (.ref 133), some (.int x), some (.int (nI 336))] [] (am_hp n (am_fl μ 149 (nI 0) 336) ν) Q) : ∀ (m j : Nat) , j + m = 336 → am_w (d + 14) (Option.none : Option FieldType) am_g258 58 [some (.ref 133), some (.int x), some (.int (nI j))] [] (am_hp n (am_fl μ 149 (nI 0) j) ν) (Q) := by
  intro m
  induction m with
  | zero =>
    intro j  hj
    refine am_q_iload_n rfl rfl ?_
    refine am_q_sipush (v := nI 336) rfl rfl ?_
    refine am_q_igeN rfl (by omega) (by omega) (fun c_62 => ?_) (fun c_62 => absurd c_62 (by omega))
    rw [show j = 336 by omega]
    exact K
  | succ m ih =>
    intro j  hj
    refine am_q_iload_n rfl rfl ?_
    refine am_q_sipush (v := nI 336) rfl rfl ?_
    refine am_q_igeN rfl (by omega) (by omega) (fun c_62 => absurd c_62 (by omega)) (fun c_62 => ?_)
    refine am_q_aload_n rfl rfl ?_
    refine am_q_gr rfl rfl rfl ?_
    refine am_q_iload_n rfl rfl ?_
    refine am_q_iconst (v := nI 0) rfl rfl ?_
    refine am_q_iast rfl rfl (by first | exact am_ix_nI (by omega) (by omega) | rfl) rfl ?_
    rw [am_fl_s]
    refine am_q_iinc [some _, some _, some _] rfl (c := nI 1) rfl rfl (Nat.le_of_ble_eq_true rfl) (nI_add _ _) rfl ?_
    refine am_q_goto rfl ?_
    exact ih (j + 1) (by omega)

theorem fl_in {μ : am_M2} {a m k : Nat} {v : Int32} (h : k < m) : am_fl μ a v m a k = v := by unfold am_fl; rw [if_pos rfl, if_pos h]
theorem fl_ne {μ : am_M2} {a m i k : Nat} {v : Int32} (h : i ≠ a) : am_fl μ a v m i k = μ i k := by unfold am_fl; rw [if_neg h]
theorem gat_acc {V : sVal} (hO : vOk V) (S : sSeen) (t : Nat) (sw : Option Nat) (hsw : ∀ w, sw = some w → w ≤ 30) (μ : am_M2) : mAcc V S t sw (μ 133 21) (am_fl (am_fl (am_up (am_up (am_up (am_up (am_up (am_up (am_up μ 133 20 (nI 0)) 133 22 (nI 0)) 133 23 (sn_place sw)) 133 24 (-1)) 133 25 (-1)) 133 26 (-1)) 133 27 (-1)) 147 (nI 0) 48) 149 (nI 0) 336) [] ∧ fr μ (am_fl (am_fl (am_up (am_up (am_up (am_up (am_up (am_up (am_up μ 133 20 (nI 0)) 133 22 (nI 0)) 133 23 (sn_place sw)) 133 24 (-1)) 133 25 (-1)) 133 26 (-1)) 133 27 (-1)) 147 (nI 0) 48) 149 (nI 0) 336) := by
  have h6 := hO.1.1
  have hP8 := hO.1.2.1
  refine ⟨⟨⟨?_, ?_⟩, fun s hs => ⟨fun p hp => ?_, fun k hk => by cases hk⟩, ⟨?_, ?_⟩, ⟨?_, fun p hp w hw => ?_⟩, ⟨?_, hsw, fun w hw => ⟨?_, ?_⟩⟩⟩, fun i k q => ?_⟩
  · rw [fl_ne (by decide), fl_ne (by decide)]; rfl
  · rw [fl_ne (by decide), fl_ne (by decide)]; rfl
  · rw [fl_ne (by decide), fl_in (by omega)]; rfl
  · rw [fl_ne (by decide), fl_ne (by decide)]; rfl
  · rw [fl_ne (by decide), fl_ne (by decide)]; rfl
  · rw [fl_ne (by decide), fl_ne (by decide)]; rfl
  · rw [fl_in (by omega)]; rfl
  · rw [fl_ne (by decide), fl_ne (by decide)]; rfl
  · rw [fl_ne (by decide), fl_ne (by decide)]; rfl
  · rw [fl_ne (by decide), fl_ne (by decide)]; rfl
  · rw [fl_ne (by omega), fl_ne (by omega), am_up_ne (by omega), am_up_ne (by omega), am_up_ne (by omega), am_up_ne (by omega), am_up_ne (by omega), am_up_ne (by omega), am_up_ne (by omega)]
/-- StoneSecretsModel.gathers(I)V -/
theorem m_gathers (d : Nat) (n : Nat) {V : sVal} {W : sWall} {U : List sWall} {K : Nat → Option (sWall × sSeen)} {S : sSeen} {Y : sYear} {μ : am_M2} (ν : am_N2) (hR : mR μ V W U K S Y) (hO : vOk V) (hI : sI (vN V) (vP V) W.1 W.2.1) (ht : W.2.2 < 2 ^ 20) (hN : nOk V S) (sw : Option Nat) (hsw : ∀ w, sw = some w → w ≤ 30) : ∃ (μ' : am_M2), am_run (d + 15) 258 [.ref 133, .int (sn_place sw)] (am_hp n μ ν) = some (none, am_hp n μ' ν) ∧ mAcc V S W.2.2 sw (μ 133 21) μ' (waysOf V W) ∧ fr μ μ' := by
  have h6 := hO.1.1
  obtain ⟨hV, hW, hU, hK, hS, hY⟩ := hR
  obtain ⟨g1, g2⟩ := gat_acc hO S W.2.2 sw hsw μ
  have hlen := waysL_262 hO (sLo V W) (sSt V W) W.2.1
  have hlen : (waysOf V W).length ≤ 262144 := hlen
  rw [waysOf_F h6] at hlen
  obtain ⟨y, hy, μ3, rfl, hA3, hf3⟩ := m_lays n ν hO ht hN (t := W.2.2) (vN V) (d + (6 - vN V)) 0 (nrm V W) _ [] (by omega) ⟨mVal_fr g2 hV, nrm_W hI (mWall_fr g2 (by decide) hW), nrm_I hI, rfl, mSeen_c (fun k a b => g2 _ _ (by omega)) hS, fun w hw => (by cases hw), g1, by rw [List.length_nil, Nat.zero_add]; exact hlen⟩
  rw [show d + (6 - vN V) + vN V + 8 = d + 14 by omega] at hy
  have key : ∃ r, am_run (d + 15) 258 [.ref 133, .int (sn_place sw)] (am_hp n μ ν) = some r ∧ ∃ (μ' : am_M2), r = (none, am_hp n μ' ν) ∧ mAcc V S W.2.2 sw (μ 133 21) μ' (waysOf V W) ∧ fr μ μ' := am_run_wE (k := 258) (d := d + 14) rfl rfl (Nat.le_of_ble_eq_true rfl) [some (.ref 133), some (.int (sn_place sw)), none] rfl (by
    refine am_q_aload_n rfl rfl ?_
    refine am_q_iconst (v := nI 0) rfl rfl ?_
    refine am_q_pi rfl rfl rfl (Or.inl rfl) ?_
    refine am_q_aload_n rfl rfl ?_
    refine am_q_iconst (v := nI 0) rfl rfl ?_
    refine am_q_pi rfl rfl rfl (Or.inl rfl) ?_
    refine am_q_aload_n rfl rfl ?_
    refine am_q_iload_n rfl rfl ?_
    refine am_q_pi rfl rfl rfl (Or.inl rfl) ?_
    refine am_q_aload_n rfl rfl ?_
    refine am_q_iconst (v := -1) rfl rfl ?_
    refine am_q_pi rfl rfl rfl (Or.inl rfl) ?_
    refine am_q_aload_n rfl rfl ?_
    refine am_q_iconst (v := -1) rfl rfl ?_
    refine am_q_pi rfl rfl rfl (Or.inl rfl) ?_
    refine am_q_aload_n rfl rfl ?_
    refine am_q_iconst (v := -1) rfl rfl ?_
    refine am_q_pi rfl rfl rfl (Or.inl rfl) ?_
    refine am_q_aload_n rfl rfl ?_
    refine am_q_iconst (v := -1) rfl rfl ?_
    refine am_q_pi rfl rfl rfl (Or.inl rfl) ?_
    refine am_q_iconst (v := nI 0) rfl rfl ?_
    refine am_q_istore_n [some _, some _, some _] rfl (Nat.le_of_ble_eq_true rfl) rfl ?_
    rw [← am_fl_0 (am_up (am_up (am_up (am_up (am_up (am_up (am_up μ 133 20 (nI 0)) 133 22 (nI 0)) 133 23 (sn_place sw)) 133 24 (-1)) 133 25 (-1)) 133 26 (-1)) 133 27 (-1)) 147 (nI 0)]
    refine (fun K => m_gat1 d n (am_up (am_up (am_up (am_up (am_up (am_up (am_up μ 133 20 (nI 0)) 133 22 (nI 0)) 133 23 (sn_place sw)) 133 24 (-1)) 133 25 (-1)) 133 26 (-1)) 133 27 (-1)) ν _ _ K 48 0 (by omega)) ?_
    refine am_q_iconst (v := nI 0) rfl rfl ?_
    refine am_q_istore_n [some _, some _, some _] rfl (Nat.le_of_ble_eq_true rfl) rfl ?_
    rw [← am_fl_0 (am_fl (am_up (am_up (am_up (am_up (am_up (am_up (am_up μ 133 20 (nI 0)) 133 22 (nI 0)) 133 23 (sn_place sw)) 133 24 (-1)) 133 25 (-1)) 133 26 (-1)) 133 27 (-1)) 147 (nI 0) 48) 149 (nI 0)]
    refine (fun K => m_gat2 d n (am_fl (am_up (am_up (am_up (am_up (am_up (am_up (am_up μ 133 20 (nI 0)) 133 22 (nI 0)) 133 23 (sn_place sw)) 133 24 (-1)) 133 25 (-1)) 133 26 (-1)) 133 27 (-1)) 147 (nI 0) 48) ν _ _ K 336 0 (by omega)) ?_
    refine am_q_aload_n rfl rfl ?_
    refine am_q_iconst (v := nI 0) rfl rfl ?_
    refine am_q_call rfl rfl hy rfl ?_
    refine am_q_return rfl rfl ?_
    rw [waysOf_F h6]
    exact ⟨_, rfl, hA3, fr_tr g2 hf3⟩)
  obtain ⟨r, h1, μ', h2, h3⟩ := key
  exact ⟨μ', by rw [h1, h2], h3⟩
