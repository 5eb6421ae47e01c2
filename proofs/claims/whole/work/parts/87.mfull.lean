def wo (u : Nat) : Nat := u &&& (2 ^ 32 - (2 ^ lo u + 1))
theorem lo_ok : ∀ u, u < 64 → ¬ u = 0 → mvL u 6 = lo u :: mvL (wo u) 6 ∧ lo u < 6 ∧ u.testBit (lo u) = true ∧ (∀ i, i < lo u → u.testBit i = false) ∧ wo u < 64 ∧ (mvL (wo u) 6).length < (mvL u 6).length := by decide +kernel
theorem wo_tb : ∀ u, u < 64 → ¬ u = 0 → ∀ s, s < 6 → (wo u).testBit s = true → u.testBit s = true ∧ s ≠ lo u := by decide +kernel
def anyB (V : sVal) (u : Nat) (pl : Nat → Option Nat) : Bool := !(waysL V (mvL u 6) pl).isEmpty
/-- one of the PLACES from j on does -/
def anyP (V : sVal) (u : Nat) (pl : Nat → Option Nat) (s : Nat) (m j : Nat) : Bool := (List.range' j m).any (fun p => sMay V pl s p && anyB V u (fup pl s (some p)))
theorem anyP_s (V : sVal) (u : Nat) (pl : Nat → Option Nat) (s m j : Nat) : anyP V u pl s (m + 1) j = (sMay V pl s j && anyB V u (fup pl s (some j)) || anyP V u pl s m (j + 1)) := by
  unfold anyP; rw [List.range'_succ, List.any_cons]
theorem anyB_0 (V : sVal) (pl : Nat → Option Nat) : anyB V 0 pl = true := rfl
theorem anyB_P {V : sVal} (hO : vOk V) {u : Nat} (hu : u < 64) (h0 : ¬ u = 0) (pl : Nat → Option Nat) : anyB V u pl = anyP V (wo u) pl (lo u) (vP V) 0 := by
  unfold anyB anyP
  rw [(lo_ok u hu h0).1]
  show (!(List.isEmpty ((bl (sOpen V pl (lo u))).flatMap _))) = _
  rw [bl_open hO, ← List.range_eq_range', Bool.eq_iff_iff, List.any_eq_true]
  constructor
  · intro h
    cases hl : ((List.range (vP V)).filter (sMay V pl (lo u))).flatMap (fun p => waysL V (mvL (wo u) 6) (fup pl (lo u) (some p))) with
    | nil => rw [hl] at h; cases h
    | cons w ws =>
      have hm : w ∈ ((List.range (vP V)).filter (sMay V pl (lo u))).flatMap (fun p => waysL V (mvL (wo u) 6) (fup pl (lo u) (some p))) := by rw [hl]; exact List.mem_cons_self
      obtain ⟨p, hp, hw⟩ := List.mem_flatMap.mp hm
      obtain ⟨h1, h2⟩ := List.mem_filter.mp hp
      refine ⟨p, h1, ?_⟩
      rw [h2, Bool.true_and]
      unfold anyB
      cases hz : waysL V (mvL (wo u) 6) (fup pl (lo u) (some p)) with
      | nil => rw [hz] at hw; cases hw
      | cons _ _ => rfl
  · rintro ⟨p, h1, h2⟩
    rw [Bool.and_eq_true] at h2
    have h3 := h2.2
    unfold anyB at h3
    cases hz : waysL V (mvL (wo u) 6) (fup pl (lo u) (some p)) with
    | nil => rw [hz] at h3; cases h3
    | cons w ws =>
      have hm : w ∈ ((List.range (vP V)).filter (sMay V pl (lo u))).flatMap (fun p => waysL V (mvL (wo u) 6) (fup pl (lo u) (some p))) := List.mem_flatMap.mpr ⟨p, List.mem_filter.mpr ⟨h1, h2.1⟩, by rw [hz]; exact List.mem_cons_self⟩
      cases hl : ((List.range (vP V)).filter (sMay V pl (lo u))).flatMap (fun p => waysL V (mvL (wo u) 6) (fup pl (lo u) (some p))) with
      | nil => rw [hl] at hm; cases hm
      | cons _ _ => rfl
theorem up_back {μ : am_M2} {b s : Nat} {T : sWall} {v u : Int32} (hs : s < 6) (hT : mWall μ b T) (hn : T.2.1 s = none) : am_up (am_up (am_up (am_up μ 145 (b + 1 + s) v) 145 (b + 7 + s) u) 145 (b + 1 + s) (nI (T.1 s))) 145 (b + 7 + s) (-1) = μ := by
  funext i k
  by_cases a : i = 145 ∧ k = b + 7 + s
  · rw [a.1, a.2, am_up_eq, (hT.2 s hs).2, hn]; rfl
  · by_cases c : i = 145 ∧ k = b + 1 + s
    · rw [c.1, c.2, am_up_ne (by omega), am_up_eq, (hT.2 s hs).1]
    · rw [am_up_ne (by omega), am_up_ne (by omega), am_up_ne (by omega), am_up_ne (by omega)]
theorem m_couL (d u : Nat) (n : Nat) {V : sVal} (ν : am_N2) (hO : vOk V) (T : sWall) (μ : am_M2) (hu : u < 64) (h0 : ¬ u = 0) (hC : mVal μ V ∧ mWall μ 798 T ∧ sI (vN V) (vP V) T.1 T.2.1 ∧ (∀ s, s < 6 → u.testBit s = true → s < vN V ∧ T.2.1 s = none)) (hk : ∀ (T : sWall) (μ : am_M2), (mVal μ V ∧ mWall μ 798 T ∧ sI (vN V) (vP V) T.1 T.2.1 ∧ (∀ s, s < 6 → (wo u).testBit s = true → s < vN V ∧ T.2.1 s = none)) → am_run (d + 4) 275 [.ref 133, .int (nI 798), .int (nI (wo u))] (am_hp n μ ν) = some (some (.int (sB (anyB V (wo u) T.2.1))), am_hp n μ ν)) : ∀ (m j : Nat) (o6 : Option Value), j + m = vP V → am_w (d + 4) (Option.some FieldType.boolean) am_g275 33 [some (.ref 133), some (.int (nI 798)), some (.int (nI u)), some (.int (nI (lo u))), some (.int (nI (T.1 (lo u)))), some (.int (nI j)), o6] [] (am_hp n μ ν) (fun y => y = (some (.int (sB (anyP V (wo u) T.2.1 (lo u) m j))), am_hp n μ ν)) := by
  intro m
  induction m with
  | zero =>
    intro j o6 hj
    have h6 := hO.1.1
    have hP8 := hO.1.2.1
    obtain ⟨hV, hT, hI, hf⟩ := hC
    refine am_q_iload rfl rfl ?_
    refine am_q_aload_n rfl rfl ?_
    refine am_q_call rfl rfl (m_places _ _ _ hV) rfl ?_
    refine am_q_igeN rfl (by omega) (by omega) (fun c_39 => ?_) (fun c_39 => absurd c_39 (by omega))
    refine am_q_iconst (v := nI 0) rfl rfl ?_
    refine am_q_ireturn rfl rfl rfl ?_
    rfl
  | succ m ih =>
    intro j o6 hj
    have h6 := hO.1.1
    have hP8 := hO.1.2.1
    obtain ⟨hV, hT, hI, hf⟩ := hC
    obtain ⟨l1, l2, l3, l4, l5, l6⟩ := lo_ok u hu h0
    obtain ⟨hsN, hpn⟩ := hf (lo u) l2 l3
    have h2j : 2 ^ lo u < 2 ^ 32 := Nat.pow_lt_pow_right (by decide) (by omega)
    rw [anyP_s]
    refine am_q_iload rfl rfl ?_
    refine am_q_aload_n rfl rfl ?_
    refine am_q_call rfl rfl (m_places _ _ _ hV) rfl ?_
    refine am_q_igeN rfl (by omega) (by omega) (fun c_39 => absurd c_39 (by omega)) (fun c_39 => ?_)
    refine am_q_aload_n rfl rfl ?_
    refine am_q_iload_n rfl rfl ?_
    refine am_q_iload_n rfl rfl ?_
    refine am_q_iload rfl rfl ?_
    refine am_q_call rfl rfl (m_mayStand d n ν hV hO 798 (by decide) hT hI (lo u) hsN j (by omega)) rfl ?_
    refine am_q_if_eqB rfl (fun c_50 => ?_) (fun c_50 => ?_)
    · rw [c_50, Bool.false_and, Bool.false_or]
      refine am_q_iinc [some _, some _, some _, some _, some _, some _, _] rfl (c := nI 1) rfl rfl (Nat.le_of_ble_eq_true rfl) (nI_add _ _) rfl ?_
      refine am_q_goto rfl ?_
      exact ih (j + 1) _ (by omega)
    · have hI2 := lay_I hI hsN c_39 hpn c_50
      have hr := hk (fup T.1 (lo u) 2, fup T.2.1 (lo u) (some j), T.2.2) (am_up (am_up μ 145 (798 + 1 + lo u) (nI 2)) 145 (798 + 7 + lo u) (nI j)) ⟨mVal_c (fun i hi => by funext k; rw [am_up_ne (by omega), am_up_ne (by omega)]) hV, mWall_set (by omega) rfl rfl hT, hI2, fun s hs hb => by obtain ⟨b1, b2⟩ := wo_tb u hu h0 s hs hb; have := hf s hs b1; exact ⟨this.1, by show fup T.2.1 (lo u) (some j) s = none; unfold fup; rw [if_neg b2]; exact this.2⟩⟩
      refine am_q_aload_n rfl rfl ?_
      refine am_q_iload_n rfl rfl ?_
      refine am_q_iload_n rfl rfl ?_
      refine am_q_iload rfl rfl ?_
      refine am_q_call rfl rfl (m_stand _ n 798 (lo u) (by decide) (by omega) _ _ _) rfl ?_
      refine am_q_aload_n rfl rfl ?_
      refine am_q_iload_n rfl rfl ?_
      refine am_q_iload_n rfl rfl ?_
      refine am_q_iconst (v := nI 1) rfl rfl ?_
      refine am_q_iload_n rfl rfl ?_
      refine am_q_ishl rfl (sn_shl1 (by omega)) ?_
      refine am_q_iconst (v := -1) rfl rfl ?_
      refine am_q_ixor rfl rfl ?_
      refine am_q_iand rfl (show nI u &&& (nI (2 ^ lo u) ^^^ -1) = nI (wo u) from sn_andn u h2j) ?_
      refine am_q_call rfl rfl (hr) rfl ?_
      refine am_q_istore [some _, some _, some _, some _, some _, some _, some _] rfl (Nat.le_of_ble_eq_true rfl) rfl ?_
      refine am_q_aload_n rfl rfl ?_
      refine am_q_iload_n rfl rfl ?_
      refine am_q_iload_n rfl rfl ?_
      refine am_q_iload rfl rfl ?_
      refine am_q_call rfl rfl (m_leave _ n 798 (lo u) (by decide) (by omega) _ _ _) rfl ?_
      rw [up_back (by omega) hT hpn]
      refine am_q_iload rfl rfl ?_
      refine am_q_if_eqB rfl (fun c_85 => ?_) (fun c_85 => ?_)
      · rw [show anyB V (wo u) (fup T.2.1 (lo u) (some j)) = false from c_85, Bool.and_false, Bool.false_or]
        refine am_q_iinc [some _, some _, some _, some _, some _, some _, some _] rfl (c := nI 1) rfl rfl (Nat.le_of_ble_eq_true rfl) (nI_add _ _) rfl ?_
        refine am_q_goto rfl ?_
        exact ih (j + 1) _ (by omega)
      · refine am_q_iconst (v := nI 1) rfl rfl ?_
        refine am_q_ireturn rfl rfl rfl ?_
        rw [c_50, show anyB V (wo u) (fup T.2.1 (lo u) (some j)) = true from c_85]; rfl

theorem m_couF (d u n : Nat) (μ : am_M2) (ν : am_N2) (hu : u < 64) (h0 : ¬ u = 0) (Q : am_R → Prop) (K : am_w (d + 4) (Option.some FieldType.boolean) am_g275 22 [some (.ref 133), some (.int (nI 798)), some (.int (nI u)), some (.int (nI (lo u))), none, none, none] [] (am_hp n μ ν) Q) : ∀ (m j : Nat) , j + m = lo u → am_w (d + 4) (Option.some FieldType.boolean) am_g275 8 [some (.ref 133), some (.int (nI 798)), some (.int (nI u)), some (.int (nI j)), none, none, none] [] (am_hp n μ ν) (Q) := by
  intro m
  induction m with
  | zero =>
    intro j  hj
    obtain ⟨l1, l2, l3, l4, l5, l6⟩ := lo_ok u hu h0
    have hjj : j = lo u := by omega
    have hcz : ¬ u / 2 ^ j % 2 = 0 := by rw [hjj]; have := (tb_1 u (lo u)).mpr l3; omega
    refine am_q_iload_n rfl rfl ?_
    refine am_q_iload_n rfl rfl ?_
    refine am_q_ishr rfl (sn_shr (by omega) (by omega)) ?_
    refine am_q_iconst (v := nI 1) rfl rfl ?_
    refine am_q_iand rfl (show nI (u / 2 ^ j) &&& nI 1 = nI (u / 2 ^ j % 2) from fa_mask _ 1) ?_
    refine am_q_zneN rfl (by omega) (fun c_13 => ?_) (fun c_13 => absurd c_13 hcz)
    rw [hjj]
    exact K
  | succ m ih =>
    intro j  hj
    obtain ⟨l1, l2, l3, l4, l5, l6⟩ := lo_ok u hu h0
    have hcz : u / 2 ^ j % 2 = 0 := by have := (tb_0 u j).mpr (l4 j (by omega)); omega
    refine am_q_iload_n rfl rfl ?_
    refine am_q_iload_n rfl rfl ?_
    refine am_q_ishr rfl (sn_shr (by omega) (by omega)) ?_
    refine am_q_iconst (v := nI 1) rfl rfl ?_
    refine am_q_iand rfl (show nI (u / 2 ^ j) &&& nI 1 = nI (u / 2 ^ j % 2) from fa_mask _ 1) ?_
    refine am_q_zneN rfl (by omega) (fun c_13 => absurd hcz c_13) (fun c_13 => ?_)
    refine am_q_iinc [some _, some _, some _, some _, none, none, none] rfl (c := nI 1) rfl rfl (Nat.le_of_ble_eq_true rfl) (nI_add _ _) rfl ?_
    refine am_q_goto rfl ?_
    exact ih (j + 1) (by omega)

theorem m_cou1 (d u : Nat) (n : Nat) {V : sVal} (ν : am_N2) (hO : vOk V) (T : sWall) (μ : am_M2) (hu : u < 64) (h0 : ¬ u = 0) (hC : mVal μ V ∧ mWall μ 798 T ∧ sI (vN V) (vP V) T.1 T.2.1 ∧ (∀ s, s < 6 → u.testBit s = true → s < vN V ∧ T.2.1 s = none)) (hk : ∀ (T : sWall) (μ : am_M2), (mVal μ V ∧ mWall μ 798 T ∧ sI (vN V) (vP V) T.1 T.2.1 ∧ (∀ s, s < 6 → (wo u).testBit s = true → s < vN V ∧ T.2.1 s = none)) → am_run (d + 4) 275 [.ref 133, .int (nI 798), .int (nI (wo u))] (am_hp n μ ν) = some (some (.int (sB (anyB V (wo u) T.2.1))), am_hp n μ ν)) : am_w (d + 4) (Option.some FieldType.boolean) am_g275 0 [some (.ref 133), some (.int (nI 798)), some (.int (nI u)), none, none, none, none] [] (am_hp n μ ν) (fun y => y = (some (.int (sB (anyB V u T.2.1))), am_hp n μ ν)) := by
  obtain ⟨l1, l2, l3, l4, l5, l6⟩ := lo_ok u hu h0
  refine am_q_iload_n rfl rfl ?_
  refine am_q_zneN rfl (by omega) (fun c_1 => ?_) (fun c_1 => absurd c_1 (by omega))
  refine am_q_iconst (v := nI 0) rfl rfl ?_
  refine am_q_istore_n [some _, some _, some _, some _, none, none, none] rfl (Nat.le_of_ble_eq_true rfl) rfl ?_
  refine m_couF d u n μ ν hu h0 _ ?_ (lo u) 0 (by omega)
  refine am_q_aload_n rfl rfl ?_
  refine am_q_iload_n rfl rfl ?_
  refine am_q_iload_n rfl rfl ?_
  refine am_q_call rfl rfl (m_isNowW _ n ν 798 (by decide) hC.2.1 (lo u) l2) rfl ?_
  refine am_q_istore [some _, some _, some _, some _, some _, none, none] rfl (Nat.le_of_ble_eq_true rfl) rfl ?_
  refine am_q_iconst (v := nI 0) rfl rfl ?_
  refine am_q_istore [some _, some _, some _, some _, some _, some _, none] rfl (Nat.le_of_ble_eq_true rfl) rfl ?_
  rw [anyB_P hO hu h0]
  exact m_couL d u n ν hO T μ hu h0 hC hk (vP V) 0 none (by omega)

theorem m_cou0 (d n : Nat) {V : sVal} (ν : am_N2) (T : sWall) (μ : am_M2) : am_w (d + 4) (Option.some FieldType.boolean) am_g275 0 [some (.ref 133), some (.int (nI 798)), some (.int (nI 0)), none, none, none, none] [] (am_hp n μ ν) (fun y => y = (some (.int (sB (anyB V 0 T.2.1))), am_hp n μ ν)) := by
  refine am_q_iload_n rfl rfl ?_
  refine am_q_zneN rfl (by omega) (fun c_1 => absurd c_1 (by omega)) (fun c_1 => ?_)
  refine am_q_iconst (v := nI 1) rfl rfl ?_
  refine am_q_ireturn rfl rfl rfl ?_
  rfl

theorem m_couldAll (n : Nat) {V : sVal} (ν : am_N2) (hO : vOk V) : ∀ (r d u : Nat) (T : sWall) (μ : am_M2), (mvL u 6).length ≤ r → u < 64 → (mVal μ V ∧ mWall μ 798 T ∧ sI (vN V) (vP V) T.1 T.2.1 ∧ (∀ s, s < 6 → u.testBit s = true → s < vN V ∧ T.2.1 s = none)) → am_run (d + r + 5) 275 [.ref 133, .int (nI 798), .int (nI u)] (am_hp n μ ν) = some (some (.int (sB (anyB V u T.2.1))), am_hp n μ ν) := by
  intro r
  induction r with
  | zero =>
    intro d u T μ hl hu hC
    by_cases h0 : u = 0
    · subst h0
      exact am_r275 (d := d + 4) (Nat.le_of_ble_eq_true rfl) [some (.ref 133), some (.int (nI 798)), some (.int (nI 0)), none, none, none, none] rfl (m_cou0 d n ν T μ)
    · have := (lo_ok u hu h0).2.2.2.2.2; omega
  | succ r ih =>
    intro d u T μ hl hu hC
    by_cases h0 : u = 0
    · subst h0
      exact am_r275 (d := d + (r + 1) + 4) (Nat.le_of_ble_eq_true rfl) [some (.ref 133), some (.int (nI 798)), some (.int (nI 0)), none, none, none, none] rfl (m_cou0 (d + (r + 1)) n ν T μ)
    · obtain ⟨l1, l2, l3, l4, l5, l6⟩ := lo_ok u hu h0
      refine am_r275 (d := d + (r + 1) + 4) (Nat.le_of_ble_eq_true rfl) [some (.ref 133), some (.int (nI 798)), some (.int (nI u)), none, none, none, none] rfl (m_cou1 (d + (r + 1)) u n ν hO T μ hu h0 hC (fun T μ h => ?_))
      have := ih d (wo u) T μ (by omega) l5 h
      exact this
theorem mvL_6 : ∀ u, u < 64 → (mvL u 6).length ≤ 6 := by decide +kernel
theorem m_could (d n u : Nat) {V : sVal} (ν : am_N2) (hO : vOk V) (T : sWall) (μ : am_M2) (hu : u < 64) (hC : mVal μ V ∧ mWall μ 798 T ∧ sI (vN V) (vP V) T.1 T.2.1 ∧ (∀ s, s < 6 → u.testBit s = true → s < vN V ∧ T.2.1 s = none)) : am_run (d + 11) 275 [.ref 133, .int (nI 798), .int (nI u)] (am_hp n μ ν) = some (some (.int (sB (anyB V u T.2.1))), am_hp n μ ν) :=
  m_couldAll n ν hO 6 d u T μ (mvL_6 u hu) hu hC
theorem fuS_64 {V : sVal} {W : sWall} (h : sLo V W < 64) : fuS V W 64 = fuS V W (sLo V W + 1) := by
  have := lpF_more (f := fun j b => if sn_bc b < sn_bc j ∧ j &&& sLo V W = j ∧ anyW V W j = true then j else b) (a := 0) (n := sLo V W + 1) (63 - sLo V W) (fun k x h1 h2 => if_neg (fun z => by have := and_le' z.2.1; omega))
  rw [show sLo V W + 1 + (63 - sLo V W) = 64 by omega] at this
  exact this
theorem lo_or {V : sVal} (W : sWall) : sBits (fun s => decide (W.1 s = 1)) (vN V) ||| sBits (fun s => decide (W.1 s = 3)) (vN V) = sLo V W := by
  apply Nat.eq_of_testBit_eq
  intro i
  unfold sLo
  rw [Nat.testBit_or, sBits_tb, sBits_tb, sBits_tb]
  cases decide (i < vN V) <;> rfl
theorem m_fulL (d : Nat) (n : Nat) {V : sVal} {W : sWall} {μ : am_M2} (ν : am_N2) (hV : mVal μ V) (hO : vOk V) (hW : mWall μ 0 W) (hI : sI (vN V) (vP V) W.1 W.2.1) (ht : W.2.2 < 2 ^ 20) (μ1 : am_M2) (hf1 : fr μ μ1) (hW1 : mWall μ1 798 W) : ∀ (m j : Nat) (o4 : Option Value), j + m = sLo V W + 1 → am_w (d + 11) (Option.some FieldType.int) am_g274 22 [some (.ref 133), some (.int (nI (sLo V W))), some (.int (nI (fuS V W j))), some (.int (nI j)), o4] [] (am_hp n μ1 ν) (fun y => y = (some (.int (nI (fuS V W 64))), am_hp n μ1 ν)) := by
  intro m
  induction m with
  | zero =>
    intro j o4 hj
    have h6 := hO.1.1
    have hlo : sLo V W < 64 := sn_64 h6
    refine am_q_iload_n rfl rfl ?_
    refine am_q_iload_n rfl rfl ?_
    refine am_q_igtN rfl (by omega) (by omega) (fun c_24 => ?_) (fun c_24 => absurd c_24 (by omega))
    refine am_q_iload_n rfl rfl ?_
    refine am_q_ireturn rfl rfl rfl ?_
    rw [fuS_64 hlo, ← show j = sLo V W + 1 by omega]
  | succ m ih =>
    intro j o4 hj
    have h6 := hO.1.1
    have hlo : sLo V W < 64 := sn_64 h6
    have hV1 := mVal_fr hf1 hV
    have hfl := fuS_le V W j
    have hb1 := sn_bc_le j (by omega)
    have hb2 := sn_bc_le (fuS V W j) (by omega)
    have e := fun p => ih (j + 1) p (by omega)
    refine am_q_iload_n rfl rfl ?_
    refine am_q_iload_n rfl rfl ?_
    refine am_q_igtN rfl (by omega) (by omega) (fun c_24 => absurd c_24 (by omega)) (fun c_24 => ?_)
    refine am_q_iload_n rfl rfl ?_
    refine am_q_iload_n rfl rfl ?_
    refine am_q_iconst (v := -1) rfl rfl ?_
    refine am_q_ixor rfl rfl ?_
    refine am_q_iand rfl rfl ?_
    refine am_q_if_ne rfl (fun c_32 => ?_) (fun c_32 => ?_)
    · have hsb : ¬ j &&& sLo V W = j := fun z => c_32 ((sn_not j (by omega) _ hlo).mpr z)
      rw [fuS_n (fun z => hsb z.2.1)] at e
      refine am_q_iconst (v := nI 0) rfl rfl ?_
      refine am_q_istore [some _, some _, some _, some _, some _] rfl (Nat.le_of_ble_eq_true rfl) rfl ?_
      refine am_q_iload rfl rfl ?_
      refine am_q_zeqN rfl (by omega) (fun c_55 => ?_) (fun c_55 => absurd c_55 (by omega))
      refine am_q_iload_n rfl rfl ?_
      refine am_q_istore_n [some _, some _, some _, some _, some _] rfl (Nat.le_of_ble_eq_true rfl) rfl ?_
      refine am_q_iinc [some _, some _, some _, some _, some _] rfl (c := nI 1) rfl rfl (Nat.le_of_ble_eq_true rfl) (nI_add _ _) rfl ?_
      refine am_q_goto rfl ?_
      exact e _
    · have hsb : j &&& sLo V W = j := (sn_not j (by omega) _ hlo).mp c_32
      have hc2 := m_could d n j ν hO (nrm V W) μ1 (by omega) ⟨hV1, nrm_W hI hW1, nrm_I hI, fun s hs hb => by have := and_sub hsb hb; exact ⟨sLo_N s this, by show stP W.2.1 (sSt V W) s = none; unfold stP; rw [sLoSt this]; rfl⟩⟩
      refine am_q_iload_n rfl rfl ?_
      refine am_q_call rfl rfl (m_bits _ j (by omega) _) rfl ?_
      refine am_q_iload_n rfl rfl ?_
      refine am_q_call rfl rfl (m_bits _ _ (by omega) _) rfl ?_
      refine am_q_ileN rfl (by omega) (by omega) (fun c_43 => ?_) (fun c_43 => ?_)
      · rw [fuS_n (fun z => by omega)] at e
        refine am_q_iconst (v := nI 0) rfl rfl ?_
        refine am_q_istore [some _, some _, some _, some _, some _] rfl (Nat.le_of_ble_eq_true rfl) rfl ?_
        refine am_q_iload rfl rfl ?_
        refine am_q_zeqN rfl (by omega) (fun c_55 => ?_) (fun c_55 => absurd c_55 (by omega))
        refine am_q_iload_n rfl rfl ?_
        refine am_q_istore_n [some _, some _, some _, some _, some _] rfl (Nat.le_of_ble_eq_true rfl) rfl ?_
        refine am_q_iinc [some _, some _, some _, some _, some _] rfl (c := nI 1) rfl rfl (Nat.le_of_ble_eq_true rfl) (nI_add _ _) rfl ?_
        refine am_q_goto rfl ?_
        exact e _
      · refine am_q_iconst (v := nI 1) rfl rfl ?_
        refine am_q_goto rfl ?_
        refine am_q_istore [some _, some _, some _, some _, some _] rfl (Nat.le_of_ble_eq_true rfl) rfl ?_
        refine am_q_iload rfl rfl ?_
        refine am_q_zeqN rfl (by omega) (fun c_55 => absurd c_55 (by omega)) (fun c_55 => ?_)
        refine am_q_aload_n rfl rfl ?_
        refine am_q_sipush (v := nI 798) rfl rfl ?_
        refine am_q_iload_n rfl rfl ?_
        refine am_q_call rfl rfl (hc2) rfl ?_
        refine am_q_if_eqB rfl (fun c_66 => ?_) (fun c_66 => ?_)
        · rw [fuS_n (fun z => by have := z.2.2; rw [show anyW V W j = false from c_66] at this; cases this)] at e
          refine am_q_iload_n rfl rfl ?_
          refine am_q_istore_n [some _, some _, some _, some _, some _] rfl (Nat.le_of_ble_eq_true rfl) rfl ?_
          refine am_q_iinc [some _, some _, some _, some _, some _] rfl (c := nI 1) rfl rfl (Nat.le_of_ble_eq_true rfl) (nI_add _ _) rfl ?_
          refine am_q_goto rfl ?_
          exact e _
        · rw [fuS_y ⟨c_43, hsb, c_66⟩] at e
          refine am_q_iload_n rfl rfl ?_
          refine am_q_goto rfl ?_
          refine am_q_istore_n [some _, some _, some _, some _, some _] rfl (Nat.le_of_ble_eq_true rfl) rfl ?_
          refine am_q_iinc [some _, some _, some _, some _, some _] rfl (c := nI 1) rfl rfl (Nat.le_of_ble_eq_true rfl) (nI_add _ _) rfl ?_
          refine am_q_goto rfl ?_
          exact e _

/-- StoneSecretsModel.fullestNow()I -/
theorem m_fullestNow (d : Nat) (n : Nat) {V : sVal} {W : sWall} {μ : am_M2} (ν : am_N2) (hV : mVal μ V) (hO : vOk V) (hW : mWall μ 0 W) (hI : sI (vN V) (vP V) W.1 W.2.1) (ht : W.2.2 < 2 ^ 20) : ∃ (μ' : am_M2), am_run (d + 12) 274 [.ref 133] (am_hp n μ ν) = some (some (.int (nI (fuS V W 64))), am_hp n μ' ν) ∧ fr μ μ' := by
  have h6 := hO.1.1
  have key : ∃ r, am_run (d + 12) 274 [.ref 133] (am_hp n μ ν) = some r ∧ ∃ (μ' : am_M2), r = (some (.int (nI (fuS V W 64))), am_hp n μ' ν) ∧ fr μ μ' := am_run_wE (k := 274) (d := d + 11) rfl rfl (Nat.le_of_ble_eq_true rfl) [some (.ref 133), none, none, none, none] rfl (by
    refine am_q_aload_n rfl rfl ?_
    refine am_q_iconst (v := nI 0) rfl rfl ?_
    refine am_q_iconst (v := nI 1) rfl rfl ?_
    refine am_q_call rfl rfl (m_who _ n ν hV hO 0 (by decide) hW hI 1 (by decide)) rfl ?_
    refine am_q_aload_n rfl rfl ?_
    refine am_q_iconst (v := nI 0) rfl rfl ?_
    refine am_q_iconst (v := nI 3) rfl rfl ?_
    refine am_q_call rfl rfl (m_who _ n ν hV hO 0 (by decide) hW hI 3 (by decide)) rfl ?_
    refine am_q_ior rfl ((sn_or _ _).trans (by rw [lo_or])) ?_
    refine am_q_istore_n [some _, some _, none, none, none] rfl (Nat.le_of_ble_eq_true rfl) rfl ?_
    refine am_q_aload_n rfl rfl ?_
    obtain ⟨μ1, hc1, hf1, hW1⟩ := m_tries _ n ν hW
    refine am_q_call rfl rfl (hc1) rfl ?_
    refine am_q_iconst (v := nI 0) rfl rfl ?_
    refine am_q_istore_n [some _, some _, some _, none, none] rfl (Nat.le_of_ble_eq_true rfl) rfl ?_
    refine am_q_iconst (v := nI 0) rfl rfl ?_
    refine am_q_istore_n [some _, some _, some _, some _, none] rfl (Nat.le_of_ble_eq_true rfl) rfl ?_
    exact am_w_mono (fun r hr => ⟨_, hr, hf1⟩) (m_fulL d n ν hV hO hW hI ht μ1 hf1 hW1 (sLo V W + 1) 0 none (by omega)))
  obtain ⟨r, h1, μ', h2, h3⟩ := key
  exact ⟨μ', by rw [h1, h2], h3⟩

theorem fuS_lt64 {V : sVal} (h6 : vN V ≤ 6) (W : sWall) : fuS V W 64 < 64 := by
  have h : sLo V W < 64 := sn_64 h6
  by_cases z : fuS V W 64 = 0
  · omega
  · have : ∀ n, fuS V W n ≠ 0 → fuS V W n < n := fun n => by
      induction n with
      | zero => intro h; exact absurd rfl h
      | succ n ih =>
        intro hn
        by_cases c : sn_bc (fuS V W n) < sn_bc n ∧ n &&& sLo V W = n ∧ anyW V W n = true
        · rw [fuS_y c]; omega
        · rw [fuS_n c] at hn ⊢; have := ih hn; omega
    exact this 64 z
/-- StoneSecretsModel.most()I -/
theorem m_most (d : Nat) (n : Nat) {V : sVal} {W : sWall} {μ : am_M2} (ν : am_N2) (hV : mVal μ V) (hO : vOk V) (hW : mWall μ 0 W) (hI : sI (vN V) (vP V) W.1 W.2.1) (ht : W.2.2 < 2 ^ 20) : ∃ (μ' : am_M2), am_run (d + 13) 273 [.ref 133] (am_hp n μ ν) = some (some (.int (nI (sn_bc (fuS V W 64)))), am_hp n μ' ν) ∧ fr μ μ' := by
  have h6 := hO.1.1
  have hP8 := hO.1.2.1
  have h8 := sI_8 hO hI
  have hpk := sI_p hI
  have hV0 := mVal_fr (fr_thr μ) hV
  have hW0 := mWall_fr (fr_thr μ) (by decide) hW
  have key : ∃ r, am_run (d + 13) 273 [.ref 133] (am_hp n μ ν) = some r ∧ ∃ (μ' : am_M2), r = (some (.int (nI (sn_bc (fuS V W 64)))), am_hp n μ' ν) ∧ fr μ μ' := am_run_wE (k := 273) (d := d + 12) rfl rfl (Nat.le_of_ble_eq_true rfl) [some (.ref 133)] rfl (by
    refine am_q_aload_n rfl rfl ?_
    refine am_q_iconst (v := nI 0) rfl rfl ?_
    refine am_q_pi rfl rfl rfl (Or.inl rfl) ?_
    refine am_q_aload_n rfl rfl ?_
    obtain ⟨μ2, hc2, hf2⟩ := m_fullestNow _ n ν hV0 hO hW0 hI ht
    refine am_q_call rfl rfl (hc2) rfl ?_
    refine am_q_call rfl rfl (m_bits _ _ (fuS_lt64 h6 W) _) rfl ?_
    refine am_q_ireturn rfl rfl rfl ?_
    exact ⟨_, rfl, fr_tr (fr_thr μ) hf2⟩)
  obtain ⟨r, h1, μ', h2, h3⟩ := key
  exact ⟨μ', by rw [h1, h2], h3⟩

/-- StoneSecretsModel.fullest()I -/
theorem m_fullest (d : Nat) (n : Nat) {V : sVal} {W : sWall} {μ : am_M2} (ν : am_N2) (hV : mVal μ V) (hO : vOk V) (hW : mWall μ 0 W) (hI : sI (vN V) (vP V) W.1 W.2.1) (ht : W.2.2 < 2 ^ 20) : ∃ (μ' : am_M2), am_run (d + 13) 276 [.ref 133] (am_hp n μ ν) = some (some (.int (nI (fuS V W 64))), am_hp n μ' ν) ∧ fr μ μ' := by
  have h6 := hO.1.1
  have hP8 := hO.1.2.1
  have h8 := sI_8 hO hI
  have hpk := sI_p hI
  have hV0 := mVal_fr (fr_thr μ) hV
  have hW0 := mWall_fr (fr_thr μ) (by decide) hW
  have key : ∃ r, am_run (d + 13) 276 [.ref 133] (am_hp n μ ν) = some r ∧ ∃ (μ' : am_M2), r = (some (.int (nI (fuS V W 64))), am_hp n μ' ν) ∧ fr μ μ' := am_run_wE (k := 276) (d := d + 12) rfl rfl (Nat.le_of_ble_eq_true rfl) [some (.ref 133)] rfl (by
    refine am_q_aload_n rfl rfl ?_
    refine am_q_iconst (v := nI 0) rfl rfl ?_
    refine am_q_pi rfl rfl rfl (Or.inl rfl) ?_
    refine am_q_aload_n rfl rfl ?_
    obtain ⟨μ2, hc2, hf2⟩ := m_fullestNow _ n ν hV0 hO hW0 hI ht
    refine am_q_call rfl rfl (hc2) rfl ?_
    refine am_q_ireturn rfl rfl rfl ?_
    exact ⟨_, rfl, fr_tr (fr_thr μ) hf2⟩)
  obtain ⟨r, h1, μ', h2, h3⟩ := key
  exact ⟨μ', by rw [h1, h2], h3⟩
