/-- StoneSecretsModel.notOut()I -/
theorem m_notOut (d : Nat) (n : Nat) {V : sVal} {W : sWall} {μ : am_M2} (ν : am_N2) (hV : mVal μ V) (hO : vOk V) (hW : mWall μ 0 W) (hI : sI (vN V) (vP V) W.1 W.2.1) : am_run (d + 3) 285 [.ref 133] (am_hp n μ ν) = some (some (.int (nI (sNo V W))), am_hp n μ ν) := by
  have h6 := hO.1.1
  refine am_r285 (d := d + 2) (Nat.le_of_ble_eq_true rfl) [some (.ref 133)] rfl ?_
  refine am_q_iconst (v := nI 1) rfl rfl ?_
  refine am_q_aload_n rfl rfl ?_
  refine am_q_call rfl rfl (m_souls _ _ _ hV) rfl ?_
  refine am_q_ishl rfl (sn_shl1 (by omega)) ?_
  refine am_q_iconst (v := nI 1) rfl rfl ?_
  refine am_q_isub rfl (pk_sub (Nat.one_le_two_pow)) ?_
  refine am_q_aload_n rfl rfl ?_
  refine am_q_iconst (v := nI 0) rfl rfl ?_
  refine am_q_iconst (v := nI 4) rfl rfl ?_
  refine am_q_call rfl rfl (m_who _ n ν hV hO 0 (by decide) hW hI 4 (by decide)) rfl ?_
  refine am_q_iconst (v := -1) rfl rfl ?_
  refine am_q_ixor rfl rfl ?_
  refine am_q_iand rfl (sNo_eq hO W) ?_
  refine am_q_ireturn rfl rfl rfl ?_
  rfl

theorem and_le' {j b : Nat} (h : j &&& b = j) : j ≤ b := by rw [← h]; exact Nat.and_le_right
theorem laS_64 {V : sVal} {b : Nat} {h : Bool} (hb : b < 64) : laS V b h 64 = laS V b h (b + 1) := by
  have := lpF_more (f := fun j x => if sn_bc x < sn_bc j ∧ j &&& b = j ∧ alk V h j (vN V) = true then j else x) (a := 0) (n := b + 1) (63 - b) (fun k x h1 h2 => if_neg (fun z => by have := and_le' z.2.1; omega))
  rw [show b + 1 + (63 - b) = 64 by omega] at this
  exact this
theorem alk_s (V : sVal) (h : Bool) (j s : Nat) : alk V h j (s + 1) = (alk V h j s && alS V h j s) := rfl
theorem alS_0 {V : sVal} {h : Bool} {j s : Nat} (hb : j.testBit s = false) : alS V h j s = true := by unfold alS; rw [hb]; rfl
theorem alS_t {V : sVal} {h : Bool} {j s : Nat} (hb : j.testBit s = true) (hh : h = true) : alS V h j s = decide (vFo V s &&& oth j s = oth j s) := by unfold alS; rw [hb, hh]; rfl
theorem alS_f {V : sVal} {h : Bool} {j s : Nat} (hb : j.testBit s = true) (hh : h = false) : alS V h j s = decide (vFo V s &&& oth j s = 0) := by unfold alS; rw [hb, hh]; rfl
theorem oth_lt {j s : Nat} (h : j < 64) : oth j s < 64 := Nat.lt_of_le_of_lt Nat.and_le_left h
theorem m_mosI (d i x : Nat) (h : Bool) (n : Nat) {V : sVal} {W : sWall} {μ : am_M2} (ν : am_N2) (hV : mVal μ V) (hO : vOk V) (hW : mWall μ 0 W) (hI : sI (vN V) (vP V) W.1 W.2.1) (hi : i < 64) (Q : am_R → Prop) (K : ∀ o5 o6, am_w (d + 3) (Option.some FieldType.int) am_g284 112 [some (.ref 133), some (.int (sB h)), some (.int (nI x)), some (.int (nI i)), some (.int (sB (alk V h i (vN V)))), o5, o6] [] (am_hp n μ ν) Q) : ∀ (m j : Nat) (o6 : Option Value), j + m = vN V → am_w (d + 3) (Option.some FieldType.int) am_g284 44 [some (.ref 133), some (.int (sB (h))), some (.int (nI x)), some (.int (nI i)), some (.int (sB (alk V h i j))), some (.int (nI j)), o6] [] (am_hp n μ ν) (Q) := by
  intro m
  induction m with
  | zero =>
    intro j o6 hj
    have h6 := hO.1.1
    refine am_q_iload rfl rfl ?_
    refine am_q_aload_n rfl rfl ?_
    refine am_q_call rfl rfl (m_souls _ _ _ hV) rfl ?_
    refine am_q_igeN rfl (by omega) (by omega) (fun c_50 => ?_) (fun c_50 => absurd c_50 (by omega))
    first | (have e := K (some (.int (nI j))) o6; rw [hz] at e; rw [c_55]; exact e) | (rw [show j = vN V by omega]; exact K _ _)
  | succ m ih =>
    intro j o6 hj
    have h6 := hO.1.1
    have hol := oth_lt (s := j) hi
    have hfo := vFo_lt hO (show j < vN V by omega)
    have hs := alk_s V h i j
    have h2j : 2 ^ j < 2 ^ 32 := Nat.pow_lt_pow_right (by decide) (by omega)
    refine am_q_iload rfl rfl ?_
    refine am_q_aload_n rfl rfl ?_
    refine am_q_call rfl rfl (m_souls _ _ _ hV) rfl ?_
    refine am_q_igeN rfl (by omega) (by omega) (fun c_50 => absurd c_50 (by omega)) (fun c_50 => ?_)
    refine am_q_iload rfl rfl ?_
    refine am_q_if_eqB rfl (fun c_55 => ?_) (fun c_55 => ?_)
    · have hz := alk_no c_55 (vN V - j)
      rw [show j + (vN V - j) = vN V by omega] at hz
      first | (have e := K (some (.int (nI j))) o6; rw [hz] at e; rw [c_55]; exact e) | (rw [show j = vN V by omega]; exact K _ _)
    · refine am_q_iload_n rfl rfl ?_
      refine am_q_iconst (v := nI 1) rfl rfl ?_
      refine am_q_iload rfl rfl ?_
      refine am_q_ishl rfl (sn_shl1 (by omega)) ?_
      refine am_q_iconst (v := -1) rfl rfl ?_
      refine am_q_ixor rfl rfl ?_
      refine am_q_iand rfl (show nI i &&& (nI (2 ^ j) ^^^ -1) = nI (oth i j) from sn_andn i h2j) ?_
      refine am_q_istore [some _, some _, some _, some _, some _, some _, some _] rfl (Nat.le_of_ble_eq_true rfl) rfl ?_
      refine am_q_iload_n rfl rfl ?_
      refine am_q_iload rfl rfl ?_
      refine am_q_ishr rfl (sn_shr (by omega) (by omega)) ?_
      refine am_q_iconst (v := nI 1) rfl rfl ?_
      refine am_q_iand rfl (show nI (i / 2 ^ j) &&& nI 1 = nI (i / 2 ^ j % 2) from fa_mask _ 1) ?_
      refine am_q_zeqN rfl (by omega) (fun c_74 => ?_) (fun c_74 => ?_)
      · refine am_q_iconst (v := nI 1) rfl rfl ?_
        refine am_q_goto rfl ?_
        refine am_q_istore [some _, some _, some _, some _, some _, some _, some _] rfl (Nat.le_of_ble_eq_true rfl) rfl ?_
        refine am_q_iinc [some _, some _, some _, some _, some _, some _, some _] rfl (c := nI 1) rfl rfl (Nat.le_of_ble_eq_true rfl) (nI_add _ _) rfl ?_
        refine am_q_goto rfl ?_
        have hb : alk V h i (j + 1) = true := by first | (rw [hs, c_55, alS_0 ((tb_0 i j).mp (by omega))]; rfl) | (rw [hs, c_55, alS_t ((tb_1 i j).mp (by omega)) c_87, decide_eq_true c_96]; rfl) | (rw [hs, c_55, alS_t ((tb_1 i j).mp (by omega)) c_87, decide_eq_false c_96]; rfl) | (rw [hs, c_55, alS_f ((tb_1 i j).mp (by omega)) c_87, decide_eq_true c_96]; rfl) | (rw [hs, c_55, alS_f ((tb_1 i j).mp (by omega)) c_87, decide_eq_false c_96]; rfl)
        have e := fun p => ih (j + 1) p (by omega)
        rw [hb] at e
        exact e _
      · refine am_q_aload_n rfl rfl ?_
        refine am_q_iload rfl rfl ?_
        refine am_q_call rfl rfl (m_hurtBy _ n ν hV hO j (by omega)) rfl ?_
        refine am_q_iload rfl rfl ?_
        refine am_q_iand rfl (sn_and _ _) ?_
        refine am_q_iload_n rfl rfl ?_
        refine am_q_if_eqB rfl (fun c_87 => ?_) (fun c_87 => ?_)
        · refine am_q_iconst (v := nI 0) rfl rfl ?_
          refine am_q_ineN rfl (Nat.lt_of_le_of_lt Nat.and_le_right (by omega)) (by omega) (fun c_96 => ?_) (fun c_96 => ?_)
          · refine am_q_iconst (v := nI 0) rfl rfl ?_
            refine am_q_istore [some _, some _, some _, some _, some _, some _, some _] rfl (Nat.le_of_ble_eq_true rfl) rfl ?_
            refine am_q_iinc [some _, some _, some _, some _, some _, some _, some _] rfl (c := nI 1) rfl rfl (Nat.le_of_ble_eq_true rfl) (nI_add _ _) rfl ?_
            refine am_q_goto rfl ?_
            have hb : alk V h i (j + 1) = false := by first | (rw [hs, c_55, alS_0 ((tb_0 i j).mp (by omega))]; rfl) | (rw [hs, c_55, alS_t ((tb_1 i j).mp (by omega)) c_87, decide_eq_true c_96]; rfl) | (rw [hs, c_55, alS_t ((tb_1 i j).mp (by omega)) c_87, decide_eq_false c_96]; rfl) | (rw [hs, c_55, alS_f ((tb_1 i j).mp (by omega)) c_87, decide_eq_true c_96]; rfl) | (rw [hs, c_55, alS_f ((tb_1 i j).mp (by omega)) c_87, decide_eq_false c_96]; rfl)
            have e := fun p => ih (j + 1) p (by omega)
            rw [hb] at e
            exact e _
          · refine am_q_iconst (v := nI 1) rfl rfl ?_
            refine am_q_goto rfl ?_
            refine am_q_istore [some _, some _, some _, some _, some _, some _, some _] rfl (Nat.le_of_ble_eq_true rfl) rfl ?_
            refine am_q_iinc [some _, some _, some _, some _, some _, some _, some _] rfl (c := nI 1) rfl rfl (Nat.le_of_ble_eq_true rfl) (nI_add _ _) rfl ?_
            refine am_q_goto rfl ?_
            have hb : alk V h i (j + 1) = true := by first | (rw [hs, c_55, alS_0 ((tb_0 i j).mp (by omega))]; rfl) | (rw [hs, c_55, alS_t ((tb_1 i j).mp (by omega)) c_87, decide_eq_true c_96]; rfl) | (rw [hs, c_55, alS_t ((tb_1 i j).mp (by omega)) c_87, decide_eq_false c_96]; rfl) | (rw [hs, c_55, alS_f ((tb_1 i j).mp (by omega)) c_87, decide_eq_true c_96]; rfl) | (rw [hs, c_55, alS_f ((tb_1 i j).mp (by omega)) c_87, decide_eq_false c_96]; rfl)
            have e := fun p => ih (j + 1) p (by omega)
            rw [hb] at e
            exact e _
        · refine am_q_iload rfl rfl ?_
          refine am_q_goto rfl ?_
          refine am_q_ineN rfl (Nat.lt_of_le_of_lt Nat.and_le_right (by omega)) (by omega) (fun c_96 => ?_) (fun c_96 => ?_)
          · refine am_q_iconst (v := nI 0) rfl rfl ?_
            refine am_q_istore [some _, some _, some _, some _, some _, some _, some _] rfl (Nat.le_of_ble_eq_true rfl) rfl ?_
            refine am_q_iinc [some _, some _, some _, some _, some _, some _, some _] rfl (c := nI 1) rfl rfl (Nat.le_of_ble_eq_true rfl) (nI_add _ _) rfl ?_
            refine am_q_goto rfl ?_
            have hb : alk V h i (j + 1) = false := by first | (rw [hs, c_55, alS_0 ((tb_0 i j).mp (by omega))]; rfl) | (rw [hs, c_55, alS_t ((tb_1 i j).mp (by omega)) c_87, decide_eq_true c_96]; rfl) | (rw [hs, c_55, alS_t ((tb_1 i j).mp (by omega)) c_87, decide_eq_false c_96]; rfl) | (rw [hs, c_55, alS_f ((tb_1 i j).mp (by omega)) c_87, decide_eq_true c_96]; rfl) | (rw [hs, c_55, alS_f ((tb_1 i j).mp (by omega)) c_87, decide_eq_false c_96]; rfl)
            have e := fun p => ih (j + 1) p (by omega)
            rw [hb] at e
            exact e _
          · refine am_q_iconst (v := nI 1) rfl rfl ?_
            refine am_q_goto rfl ?_
            refine am_q_istore [some _, some _, some _, some _, some _, some _, some _] rfl (Nat.le_of_ble_eq_true rfl) rfl ?_
            refine am_q_iinc [some _, some _, some _, some _, some _, some _, some _] rfl (c := nI 1) rfl rfl (Nat.le_of_ble_eq_true rfl) (nI_add _ _) rfl ?_
            refine am_q_goto rfl ?_
            have hb : alk V h i (j + 1) = true := by first | (rw [hs, c_55, alS_0 ((tb_0 i j).mp (by omega))]; rfl) | (rw [hs, c_55, alS_t ((tb_1 i j).mp (by omega)) c_87, decide_eq_true c_96]; rfl) | (rw [hs, c_55, alS_t ((tb_1 i j).mp (by omega)) c_87, decide_eq_false c_96]; rfl) | (rw [hs, c_55, alS_f ((tb_1 i j).mp (by omega)) c_87, decide_eq_true c_96]; rfl) | (rw [hs, c_55, alS_f ((tb_1 i j).mp (by omega)) c_87, decide_eq_false c_96]; rfl)
            have e := fun p => ih (j + 1) p (by omega)
            rw [hb] at e
            exact e _

theorem m_mosT (d n i x : Nat) (a h : Bool) (μ : am_M2) (ν : am_N2) (o5 o6 : Option Value) (Q : am_R → Prop) (K1 : a = true → am_w (d + 3) (Option.some FieldType.int) am_g284 4 [some (.ref 133), some (.int (sB h)), some (.int (nI i)), some (.int (nI (i + 1))), some (.int (sB a)), o5, o6] [] (am_hp n μ ν) Q) (K2 : a = false → am_w (d + 3) (Option.some FieldType.int) am_g284 4 [some (.ref 133), some (.int (sB h)), some (.int (nI x)), some (.int (nI (i + 1))), some (.int (sB a)), o5, o6] [] (am_hp n μ ν) Q) : am_w (d + 3) (Option.some FieldType.int) am_g284 112 [some (.ref 133), some (.int (sB (h))), some (.int (nI x)), some (.int (nI i)), some (.int (sB (a))), o5, o6] [] (am_hp n μ ν) (Q) := by
  refine am_q_iload rfl rfl ?_
  refine am_q_if_eqB rfl (fun c_114 => ?_) (fun c_114 => ?_)
  · refine am_q_iload_n rfl rfl ?_
    refine am_q_istore_n [some _, some _, some _, some _, some _, _, _] rfl (Nat.le_of_ble_eq_true rfl) rfl ?_
    refine am_q_iinc [some _, some _, some _, some _, some _, _, _] rfl (c := nI 1) rfl rfl (Nat.le_of_ble_eq_true rfl) (nI_add _ _) rfl ?_
    refine am_q_goto rfl ?_
    first | exact K1 c_114 | exact K2 c_114
  · refine am_q_iload_n rfl rfl ?_
    refine am_q_goto rfl ?_
    refine am_q_istore_n [some _, some _, some _, some _, some _, _, _] rfl (Nat.le_of_ble_eq_true rfl) rfl ?_
    refine am_q_iinc [some _, some _, some _, some _, some _, _, _] rfl (c := nI 1) rfl rfl (Nat.le_of_ble_eq_true rfl) (nI_add _ _) rfl ?_
    refine am_q_goto rfl ?_
    first | exact K1 c_114 | exact K2 c_114

theorem m_mosZ (d i x : Nat) (h : Bool) (n : Nat) {V : sVal} {W : sWall} {μ : am_M2} (ν : am_N2) (hV : mVal μ V) (hO : vOk V) (hW : mWall μ 0 W) (hI : sI (vN V) (vP V) W.1 W.2.1) (o6 : Option Value) (Q : am_R → Prop) (K : am_w (d + 3) (Option.some FieldType.int) am_g284 112 [some (.ref 133), some (.int (sB h)), some (.int (nI x)), some (.int (nI i)), some (.int (sB false)), some (.int (nI 0)), o6] [] (am_hp n μ ν) Q) : am_w (d + 3) (Option.some FieldType.int) am_g284 44 [some (.ref 133), some (.int (sB (h))), some (.int (nI x)), some (.int (nI i)), some (.int (sB (false))), some (.int (nI 0)), o6] [] (am_hp n μ ν) (Q) := by
  have h6 := hO.1.1
  refine am_q_iload rfl rfl ?_
  refine am_q_aload_n rfl rfl ?_
  refine am_q_call rfl rfl (m_souls _ _ _ hV) rfl ?_
  refine am_q_igeN rfl (by omega) (by omega) (fun c_50 => ?_) (fun c_50 => ?_)
  · exact K
  · refine am_q_iload rfl rfl ?_
    refine am_q_if_eqB rfl (fun c_55 => ?_) (fun c_55 => by simp at c_55)
    exact K

theorem m_mosL (d : Nat) (h : Bool) (n : Nat) {V : sVal} {W : sWall} {μ : am_M2} (ν : am_N2) (hV : mVal μ V) (hO : vOk V) (hW : mWall μ 0 W) (hI : sI (vN V) (vP V) W.1 W.2.1) : ∀ (m j : Nat) (o4 : Option Value) (o5 : Option Value) (o6 : Option Value), j + m = sNo V W + 1 → am_w (d + 3) (Option.some FieldType.int) am_g284 4 [some (.ref 133), some (.int (sB (h))), some (.int (nI (laS V (sNo V W) h j))), some (.int (nI j)), o4, o5, o6] [] (am_hp n μ ν) (fun y => y = (some (.int (nI (laS V (sNo V W) h 64))), am_hp n μ ν)) := by
  intro m
  induction m with
  | zero =>
    intro j o4 o5 o6 hj
    have h6 := hO.1.1
    have hno : sNo V W < 64 := sn_64 h6
    refine am_q_iload_n rfl rfl ?_
    refine am_q_aload_n rfl rfl ?_
    refine am_q_call rfl rfl (m_notOut _ n ν hV hO hW hI) rfl ?_
    refine am_q_igtN rfl (by omega) (by omega) (fun c_9 => ?_) (fun c_9 => absurd c_9 (by omega))
    refine am_q_iload_n rfl rfl ?_
    refine am_q_ireturn rfl rfl rfl ?_
    rw [laS_64 hno, ← show j = sNo V W + 1 by omega]
  | succ m ih =>
    intro j o4 o5 o6 hj
    have h6 := hO.1.1
    have hno : sNo V W < 64 := sn_64 h6
    have hlle := laS_le V (sNo V W) h j
    have hb1 := sn_bc_le j (by omega)
    have hb2 := sn_bc_le (laS V (sNo V W) h j) (by omega)
    refine am_q_iload_n rfl rfl ?_
    refine am_q_aload_n rfl rfl ?_
    refine am_q_call rfl rfl (m_notOut _ n ν hV hO hW hI) rfl ?_
    refine am_q_igtN rfl (by omega) (by omega) (fun c_9 => absurd c_9 (by omega)) (fun c_9 => ?_)
    refine am_q_iload_n rfl rfl ?_
    refine am_q_aload_n rfl rfl ?_
    refine am_q_call rfl rfl (m_notOut _ n ν hV hO hW hI) rfl ?_
    refine am_q_iconst (v := -1) rfl rfl ?_
    refine am_q_ixor rfl rfl ?_
    refine am_q_iand rfl rfl ?_
    refine am_q_if_ne rfl (fun c_20 => ?_) (fun c_20 => ?_)
    · have hsb : ¬ j &&& sNo V W = j := fun z => c_20 ((sn_not j (by omega) _ hno).mpr z)
      have hn : ¬ (sn_bc (laS V (sNo V W) h j) < sn_bc j ∧ j &&& sNo V W = j ∧ alk V h j (vN V) = true) := fun z => hsb z.2.1
      refine am_q_iconst (v := nI 0) rfl rfl ?_
      refine am_q_istore [some _, some _, some _, some _, some _, _, _] rfl (Nat.le_of_ble_eq_true rfl) rfl ?_
      refine am_q_iconst (v := nI 0) rfl rfl ?_
      refine am_q_istore [some _, some _, some _, some _, some _, some _, _] rfl (Nat.le_of_ble_eq_true rfl) rfl ?_
      refine m_mosZ d j (laS V (sNo V W) h j) h n ν hV hO hW hI o6 _ ?_
      exact m_mosT d n j (laS V (sNo V W) h j) false h μ ν _ o6 _ (fun z => by cases z) (fun z => by have e := ih (j + 1) (some (.int (sB false))) (some (.int (nI 0))) o6 (by omega); rw [laS_n hn] at e; exact e)
    · have hsb : j &&& sNo V W = j := (sn_not j (by omega) _ hno).mp c_20
      refine am_q_iload_n rfl rfl ?_
      refine am_q_call rfl rfl (m_bits _ j (by omega) _) rfl ?_
      refine am_q_iload_n rfl rfl ?_
      refine am_q_call rfl rfl (m_bits _ _ (by omega) _) rfl ?_
      refine am_q_ileN rfl (by omega) (by omega) (fun c_31 => ?_) (fun c_31 => ?_)
      · have hn : ¬ (sn_bc (laS V (sNo V W) h j) < sn_bc j ∧ j &&& sNo V W = j ∧ alk V h j (vN V) = true) := fun z => by omega
        refine am_q_iconst (v := nI 0) rfl rfl ?_
        refine am_q_istore [some _, some _, some _, some _, some _, _, _] rfl (Nat.le_of_ble_eq_true rfl) rfl ?_
        refine am_q_iconst (v := nI 0) rfl rfl ?_
        refine am_q_istore [some _, some _, some _, some _, some _, some _, _] rfl (Nat.le_of_ble_eq_true rfl) rfl ?_
        refine m_mosZ d j (laS V (sNo V W) h j) h n ν hV hO hW hI o6 _ ?_
        exact m_mosT d n j (laS V (sNo V W) h j) false h μ ν _ o6 _ (fun z => by cases z) (fun z => by have e := ih (j + 1) (some (.int (sB false))) (some (.int (nI 0))) o6 (by omega); rw [laS_n hn] at e; exact e)
      · refine am_q_iconst (v := nI 1) rfl rfl ?_
        refine am_q_goto rfl ?_
        refine am_q_istore [some _, some _, some _, some _, some _, _, _] rfl (Nat.le_of_ble_eq_true rfl) rfl ?_
        refine am_q_iconst (v := nI 0) rfl rfl ?_
        refine am_q_istore [some _, some _, some _, some _, some _, some _, _] rfl (Nat.le_of_ble_eq_true rfl) rfl ?_
        refine m_mosI d j (laS V (sNo V W) h j) h n ν hV hO hW hI (by omega) _ (fun p5 p6 => ?_) (vN V) 0 o6 (by omega)
        exact m_mosT d n j (laS V (sNo V W) h j) _ h μ ν p5 p6 _ (fun z => by have e := ih (j + 1) (some (.int (sB (alk V h j (vN V))))) p5 p6 (by omega); rw [laS_y ⟨c_31, hsb, z⟩] at e; exact e) (fun z => by have e := ih (j + 1) (some (.int (sB (alk V h j (vN V))))) p5 p6 (by omega); rw [laS_n (fun q => by rw [z] at q; cases q.2.2)] at e; exact e)

/-- StoneSecretsModel.mostOf(Z)I -/
theorem m_mostOf (d : Nat) (h : Bool) (n : Nat) {V : sVal} {W : sWall} {μ : am_M2} (ν : am_N2) (hV : mVal μ V) (hO : vOk V) (hW : mWall μ 0 W) (hI : sI (vN V) (vP V) W.1 W.2.1) : am_run (d + 4) 284 [.ref 133, .int (sB (h))] (am_hp n μ ν) = some (some (.int (nI (laS V (sNo V W) h 64))), am_hp n μ ν) := by
  refine am_r284 (d := d + 3) (Nat.le_of_ble_eq_true rfl) [some (.ref 133), some (.int (sB (h))), none, none, none, none, none] rfl ?_
  refine am_q_iconst (v := nI 0) rfl rfl ?_
  refine am_q_istore_n [some _, some _, some _, none, none, none, none] rfl (Nat.le_of_ble_eq_true rfl) rfl ?_
  refine am_q_iconst (v := nI 0) rfl rfl ?_
  refine am_q_istore_n [some _, some _, some _, some _, none, none, none] rfl (Nat.le_of_ble_eq_true rfl) rfl ?_
  exact m_mosL d h n ν hV hO hW hI (sNo V W + 1) 0 none none none (by omega)

/-- StoneSecretsModel.feud()I -/
theorem m_feud (d : Nat) (n : Nat) {V : sVal} {W : sWall} {μ : am_M2} (ν : am_N2) (hV : mVal μ V) (hO : vOk V) (hW : mWall μ 0 W) (hI : sI (vN V) (vP V) W.1 W.2.1) (ht : W.2.2 < 2 ^ 20) : am_run (d + 5) 283 [.ref 133] (am_hp n μ ν) = some (some (.int (nI (laS V (sNo V W) true 64))), am_hp n (am_up μ 133 0 (nI 0)) ν) := by
  have h6 := hO.1.1
  have hP8 := hO.1.2.1
  have h8 := sI_8 hO hI
  have hpk := sI_p hI
  have hV0 := mVal_fr (fr_thr μ) hV
  have hW0 := mWall_fr (fr_thr μ) (by decide) hW
  refine am_r283 (d := d + 4) (Nat.le_of_ble_eq_true rfl) [some (.ref 133)] rfl ?_
  refine am_q_aload_n rfl rfl ?_
  refine am_q_iconst (v := nI 0) rfl rfl ?_
  refine am_q_pi rfl rfl rfl (Or.inl rfl) ?_
  refine am_q_aload_n rfl rfl ?_
  refine am_q_iconst (v := nI 1) rfl rfl ?_
  refine am_q_call rfl rfl ((show am_run _ _ [.ref 133, .int (sB true)] _ = _ from m_mostOf _ true n ν hV0 hO hW0 hI)) rfl ?_
  refine am_q_ireturn rfl rfl rfl ?_
  rfl

/-- StoneSecretsModel.calm()I -/
theorem m_calm (d : Nat) (n : Nat) {V : sVal} {W : sWall} {μ : am_M2} (ν : am_N2) (hV : mVal μ V) (hO : vOk V) (hW : mWall μ 0 W) (hI : sI (vN V) (vP V) W.1 W.2.1) (ht : W.2.2 < 2 ^ 20) : am_run (d + 5) 286 [.ref 133] (am_hp n μ ν) = some (some (.int (nI (laS V (sNo V W) false 64))), am_hp n (am_up μ 133 0 (nI 0)) ν) := by
  have h6 := hO.1.1
  have hP8 := hO.1.2.1
  have h8 := sI_8 hO hI
  have hpk := sI_p hI
  have hV0 := mVal_fr (fr_thr μ) hV
  have hW0 := mWall_fr (fr_thr μ) (by decide) hW
  refine am_r286 (d := d + 4) (Nat.le_of_ble_eq_true rfl) [some (.ref 133)] rfl ?_
  refine am_q_aload_n rfl rfl ?_
  refine am_q_iconst (v := nI 0) rfl rfl ?_
  refine am_q_pi rfl rfl rfl (Or.inl rfl) ?_
  refine am_q_aload_n rfl rfl ?_
  refine am_q_iconst (v := nI 0) rfl rfl ?_
  refine am_q_call rfl rfl ((show am_run _ _ [.ref 133, .int (sB false)] _ = _ from m_mostOf _ false n ν hV0 hO hW0 hI)) rfl ?_
  refine am_q_ireturn rfl rfl rfl ?_
  rfl

def frQ (μ μ' : am_M2) : Prop := ∀ i, i ≠ 150 → μ' i = μ i
theorem frQ_rf (μ : am_M2) : frQ μ μ := fun _ _ => rfl
theorem frQ_tr {μ μ' μ'' : am_M2} (h : frQ μ μ') (h' : frQ μ' μ'') : frQ μ μ'' := fun i q => (h' i q).trans (h i q)
theorem fr_Q {μ μ' : am_M2} (h : frQ μ μ') : fr μ μ' := fun i k q => by rw [h i (by omega)]
theorem frQ_up {μ : am_M2} {k : Nat} {v : Int32} : frQ μ (am_up μ 150 k v) := fun i hi => by funext k'; exact am_up_ne (Or.inl hi)
theorem up150 (μ : am_M2) (k : Nat) (v : Int32) : am_up μ 150 k v 150 = upd (μ 150) k v := by funext j; unfold am_up upd; simp
theorem mVal_Q {μ μ' : am_M2} {V : sVal} (h : frQ μ μ') (hV : mVal μ V) : mVal μ' V := mVal_c (fun i hi => h i (by omega)) hV
theorem mWall_Q {μ μ' : am_M2} {W : sWall} {b : Nat} (h : frQ μ μ') (hW : mWall μ b W) : mWall μ' b W := mWall_c (fun k _ _ => by rw [h 145 (by decide)]) hW
def mpQ (V : sVal) (n : Nat) (ν : am_N2) (μ : am_M2) (s : Nat) (c : Nat → Option Nat) (r : Option (Nat → Option Nat)) (y : am_R) : Prop := ∃ μ', y = (some (.int (sB r.isSome)), am_hp n μ' ν) ∧ frQ μ μ' ∧ (match r with
  | some c' => xC c' (μ' 150) (vN V)
  | none => xC c (μ' 150) s)
theorem sNo_tb {V : sVal} {W : sWall} {s : Nat} (hs : s < vN V) : (sNo V W).testBit s = decide (W.1 s ≠ 4) := by unfold sNo; rw [sBits_tb, decide_eq_true hs, Bool.true_and]
theorem pce_s (V : sVal) (c : Nat → Option Nat) (s x : Nat) : pce V c s (x + 1) = (pce V c s x && !(decide (c x = c s) && (vFo V s).testBit x)) := rfl
theorem pnt_keep {V : sVal} {b L : Nat} : ∀ r s c c', pnt V b L r s c = some c' → (∀ x, x < s → c' x = c x) ∧ ∀ x, s ≤ x → x < s + r → b.testBit x = false → c' x = none
  | 0, s, c, c', h => by cases h; exact ⟨fun _ _ => rfl, fun x h1 h2 => by omega⟩
  | r + 1, s, c, c', h => by
    have e : pnt V b L (r + 1) s c = if b.testBit s = true then pntW V (pnt V b L r (s + 1)) s c L 0 else pnt V b L r (s + 1) (fup c s none) := rfl
    rw [e] at h
    by_cases hb : b.testBit s = true
    · rw [if_pos hb] at h
      have : ∀ m w, pntW V (pnt V b L r (s + 1)) s c m w = some c' → ∃ q, pnt V b L r (s + 1) (fup c s (some q)) = some c' := fun m => by
        induction m with
        | zero => intro w h; cases h
        | succ m ih =>
          intro w h
          unfold pntW at h
          split at h
          · split at h
            · rename_i r' hr; cases h; exact ⟨w, hr⟩
            · exact ih _ h
          · exact ih _ h
      obtain ⟨q, hq⟩ := this L 0 h
      obtain ⟨i1, i2⟩ := pnt_keep r (s + 1) _ c' hq
      refine ⟨fun x hx => by rw [i1 x (by omega)]; unfold fup; rw [if_neg (by omega)], fun x h1 h2 h3 => ?_⟩
      by_cases ex : x = s
      · rw [ex, hb] at h3; cases h3
      · exact i2 x (by omega) (by omega) h3
    · rw [if_neg hb] at h
      obtain ⟨i1, i2⟩ := pnt_keep r (s + 1) _ c' h
      refine ⟨fun x hx => by rw [i1 x (by omega)]; unfold fup; rw [if_neg (by omega)], fun x h1 h2 h3 => ?_⟩
      by_cases ex : x = s
      · rw [ex, i1 s (by omega)]; unfold fup; rw [if_pos rfl]
      · exact i2 x (by omega) (by omega) h3
theorem m_paiM (d s L n : Nat) {V : sVal} {W : sWall} (ν : am_N2) (hO : vOk V) (hI : sI (vN V) (vP V) W.1 W.2.1) (hs : s < vN V) (hL : L ≤ 7) (w : Nat) (hw : w < L) {μ : am_M2} (hV : mVal μ V) {c : Nat → Option Nat} (hc : xC c (μ 150) s) (Q : am_R → Prop) (K : am_w (d + 3) (Option.some FieldType.boolean) am_g281 98 [some (.ref 133), some (.int (nI s)), some (.int (nI L)), some (.int (nI w)), some (.int (sB (pce V (fup c s (some w)) s s))), some (.int (nI s))] [] (am_hp n μ ν) Q) : ∀ (m j : Nat) , j + m = s → am_w (d + 3) (Option.some FieldType.boolean) am_g281 49 [some (.ref 133), some (.int (nI s)), some (.int (nI L)), some (.int (nI w)), some (.int (sB (pce V (fup c s (some w)) s j))), some (.int (nI j))] [] (am_hp n μ ν) (Q) := by
  intro m
  induction m with
  | zero =>
    intro j  hj
    have h6 := hO.1.1
    refine am_q_iload rfl rfl ?_
    refine am_q_iload_n rfl rfl ?_
    refine am_q_igeN rfl (by omega) (by omega) (fun c_52 => ?_) (fun c_52 => absurd c_52 (by omega))
    rw [show j = s by omega]
    exact K
  | succ m ih =>
    intro j  hj
    have h6 := hO.1.1
    have hs2 := pce_s V (fup c s (some w)) s j
    have hcj := hc j (by omega)
    have hfo := vFo_lt hO hs
    have hfs : fup c s (some w) s = some w := by unfold fup; rw [if_pos rfl]
    have hfj : fup c s (some w) j = c j := by unfold fup; rw [if_neg (by omega)]
    rw [hfs, hfj] at hs2
    refine am_q_iload rfl rfl ?_
    refine am_q_iload_n rfl rfl ?_
    refine am_q_igeN rfl (by omega) (by omega) (fun c_52 => absurd c_52 (by omega)) (fun c_52 => ?_)
    refine am_q_iload rfl rfl ?_
    refine am_q_if_eqB rfl (fun c_57 => ?_) (fun c_57 => ?_)
    · refine am_q_iconst (v := nI 0) rfl rfl ?_
      refine am_q_istore [some _, some _, some _, some _, some _, some _] rfl (Nat.le_of_ble_eq_true rfl) rfl ?_
      refine am_q_iinc [some _, some _, some _, some _, some _, some _] rfl (c := nI 1) rfl rfl (Nat.le_of_ble_eq_true rfl) (nI_add _ _) rfl ?_
      refine am_q_goto rfl ?_
      have hb : pce V (fup c s (some w)) s (j + 1) = false := by first | (rw [hs2, c_57]; rfl) | (rw [hs2, c_57, decide_eq_false hne]; rfl) | (rw [hs2, c_57, decide_eq_true heq, (tb_1 _ _).mp c_82]; rfl) | (rw [hs2, c_57, decide_eq_true heq, (tb_0 _ _).mp c_82]; rfl)
      have e := ih (j + 1) (by omega)
      rw [hb] at e
      exact e
    · refine am_q_aload_n rfl rfl ?_
      refine am_q_gr rfl rfl rfl ?_
      refine am_q_iload rfl rfl ?_
      refine am_q_iald rfl rfl (by first | exact am_ix_nI (by omega) (by omega) | rfl) hcj.1 ?_
      refine am_q_iload_n rfl rfl ?_
      refine am_q_icmp_ne rfl (fun c_68 => ?_) (fun c_68 => ?_)
      · have hne : ¬ c j = some w := fun z => c_68 (by rw [z]; rfl)
        refine am_q_iconst (v := nI 1) rfl rfl ?_
        refine am_q_goto rfl ?_
        refine am_q_istore [some _, some _, some _, some _, some _, some _] rfl (Nat.le_of_ble_eq_true rfl) rfl ?_
        refine am_q_iinc [some _, some _, some _, some _, some _, some _] rfl (c := nI 1) rfl rfl (Nat.le_of_ble_eq_true rfl) (nI_add _ _) rfl ?_
        refine am_q_goto rfl ?_
        have hb : pce V (fup c s (some w)) s (j + 1) = true := by first | (rw [hs2, c_57]; rfl) | (rw [hs2, c_57, decide_eq_false hne]; rfl) | (rw [hs2, c_57, decide_eq_true heq, (tb_1 _ _).mp c_82]; rfl) | (rw [hs2, c_57, decide_eq_true heq, (tb_0 _ _).mp c_82]; rfl)
        have e := ih (j + 1) (by omega)
        rw [hb] at e
        exact e
      · have heq : c j = some w := (sn_place_some (by omega) (fun x hx => by have := hcj.2 x hx; omega)).mp c_68
        refine am_q_aload_n rfl rfl ?_
        refine am_q_iload_n rfl rfl ?_
        refine am_q_call rfl rfl (m_hurtBy _ n ν hV hO s hs) rfl ?_
        refine am_q_iload rfl rfl ?_
        refine am_q_ishr rfl (sn_shr (by omega) (by omega)) ?_
        refine am_q_iconst (v := nI 1) rfl rfl ?_
        refine am_q_iand rfl (show nI (vFo V s / 2 ^ j) &&& nI 1 = nI (vFo V s / 2 ^ j % 2) from fa_mask _ 1) ?_
        refine am_q_iconst (v := nI 1) rfl rfl ?_
        refine am_q_ieqN rfl (by omega) (by omega) (fun c_82 => ?_) (fun c_82 => ?_)
        · refine am_q_iconst (v := nI 0) rfl rfl ?_
          refine am_q_istore [some _, some _, some _, some _, some _, some _] rfl (Nat.le_of_ble_eq_true rfl) rfl ?_
          refine am_q_iinc [some _, some _, some _, some _, some _, some _] rfl (c := nI 1) rfl rfl (Nat.le_of_ble_eq_true rfl) (nI_add _ _) rfl ?_
          refine am_q_goto rfl ?_
          have hb : pce V (fup c s (some w)) s (j + 1) = false := by first | (rw [hs2, c_57]; rfl) | (rw [hs2, c_57, decide_eq_false hne]; rfl) | (rw [hs2, c_57, decide_eq_true heq, (tb_1 _ _).mp c_82]; rfl) | (rw [hs2, c_57, decide_eq_true heq, (tb_0 _ _).mp c_82]; rfl)
          have e := ih (j + 1) (by omega)
          rw [hb] at e
          exact e
        · refine am_q_iconst (v := nI 1) rfl rfl ?_
          refine am_q_goto rfl ?_
          refine am_q_istore [some _, some _, some _, some _, some _, some _] rfl (Nat.le_of_ble_eq_true rfl) rfl ?_
          refine am_q_iinc [some _, some _, some _, some _, some _, some _] rfl (c := nI 1) rfl rfl (Nat.le_of_ble_eq_true rfl) (nI_add _ _) rfl ?_
          refine am_q_goto rfl ?_
          have hb : pce V (fup c s (some w)) s (j + 1) = true := by first | (rw [hs2, c_57]; rfl) | (rw [hs2, c_57, decide_eq_false hne]; rfl) | (rw [hs2, c_57, decide_eq_true heq, (tb_1 _ _).mp c_82]; rfl) | (rw [hs2, c_57, decide_eq_true heq, (tb_0 _ _).mp c_82]; rfl)
          have e := ih (j + 1) (by omega)
          rw [hb] at e
          exact e

theorem pntW_n {V : sVal} {k : (Nat → Option Nat) → Option (Nat → Option Nat)} {s m w : Nat} {c : Nat → Option Nat} (h : pce V (fup c s (some w)) s s = false ∨ k (fup c s (some w)) = none) : pntW V k s c (m + 1) w = pntW V k s c m (w + 1) := by
  rw [pntW]
  rcases h with h | h
  · rw [if_neg (by rw [h]; exact Bool.false_ne_true)]
  · rw [h]; split <;> rfl
theorem pntW_y {V : sVal} {k : (Nat → Option Nat) → Option (Nat → Option Nat)} {s m w : Nat} {c c' : Nat → Option Nat} (h : pce V (fup c s (some w)) s s = true) (h2 : k (fup c s (some w)) = some c') : pntW V k s c (m + 1) w = some c' := by
  rw [pntW, if_pos h, h2]
theorem m_paiT (d s L n : Nat) {V : sVal} (ν : am_N2) (hs : s < vN V) (h6 : s < 6) (w : Nat) (hw : w < 8) (c : Nat → Option Nat) (a : Bool) (μ1 μ2 : am_M2) (b : Bool) (Q : am_R → Prop) (hr : am_run (d + 3) 281 [.ref 133, .int (nI (s + 1)), .int (nI L)] (am_hp n (am_up μ1 150 s (nI w)) ν) = some (some (.int (sB b)), am_hp n μ2 ν)) (K1 : a = false → am_w (d + 3) (Option.some FieldType.boolean) am_g281 38 [some (.ref 133), some (.int (nI s)), some (.int (nI L)), some (.int (nI (w + 1))), some (.int (sB a)), some (.int (nI s))] [] (am_hp n (am_up μ1 150 s (nI w)) ν) Q) (K2 : a = true → b = false → am_w (d + 3) (Option.some FieldType.boolean) am_g281 38 [some (.ref 133), some (.int (nI s)), some (.int (nI L)), some (.int (nI (w + 1))), some (.int (sB a)), some (.int (nI s))] [] (am_hp n μ2 ν) Q) (K3 : a = true → b = true → Q (some (.int (sB true)), am_hp n μ2 ν)) : am_w (d + 3) (Option.some FieldType.boolean) am_g281 98 [some (.ref 133), some (.int (nI s)), some (.int (nI L)), some (.int (nI w)), some (.int (sB (a))), some (.int (nI s))] [] (am_hp n μ1 ν) (Q) := by
  refine am_q_aload_n rfl rfl ?_
  refine am_q_gr rfl rfl rfl ?_
  refine am_q_iload_n rfl rfl ?_
  refine am_q_iload_n rfl rfl ?_
  refine am_q_iast rfl rfl (by first | exact am_ix_nI (by omega) (by omega) | rfl) rfl ?_
  refine am_q_iload rfl rfl ?_
  refine am_q_if_eqB rfl (fun c_107 => ?_) (fun c_107 => ?_)
  · refine am_q_iinc [some _, some _, some _, some _, some _, some _] rfl (c := nI 1) rfl rfl (Nat.le_of_ble_eq_true rfl) (nI_add _ _) rfl ?_
    refine am_q_goto rfl ?_
    first | exact K1 c_107 | exact K2 c_107 c_118
  · refine am_q_aload_n rfl rfl ?_
    refine am_q_iload_n rfl rfl ?_
    refine am_q_iconst (v := nI 1) rfl rfl ?_
    refine am_q_iadd rfl (nI_add _ _) ?_
    refine am_q_iload_n rfl rfl ?_
    refine am_q_call rfl rfl (hr) rfl ?_
    refine am_q_if_eqB rfl (fun c_118 => ?_) (fun c_118 => ?_)
    · refine am_q_iinc [some _, some _, some _, some _, some _, some _] rfl (c := nI 1) rfl rfl (Nat.le_of_ble_eq_true rfl) (nI_add _ _) rfl ?_
      refine am_q_goto rfl ?_
      first | exact K1 c_107 | exact K2 c_107 c_118
    · refine am_q_iconst (v := nI 1) rfl rfl ?_
      refine am_q_ireturn rfl rfl rfl ?_
      exact K3 c_107 c_118

theorem m_paiL (d s L n : Nat) {V : sVal} {W : sWall} (ν : am_N2) (hO : vOk V) (hI : sI (vN V) (vP V) W.1 W.2.1) (hs : s < vN V) (hL : L ≤ 7) (k : (Nat → Option Nat) → Option (Nat → Option Nat)) (hk : ∀ (c : Nat → Option Nat) (μ : am_M2), mVal μ V → mWall μ 0 W → xC c (μ 150) (s + 1) → ∃ r, am_run (d + 3) 281 [.ref 133, .int (nI (s + 1)), .int (nI L)] (am_hp n μ ν) = some r ∧ mpQ V n ν μ (s + 1) c (k c) r) {c : Nat → Option Nat} : ∀ (m j : Nat) (μ1 : am_M2) (o4 : Option Value) (o5 : Option Value), j + m = L → mVal μ1 V ∧ mWall μ1 0 W ∧ xC c (μ1 150) s → am_w (d + 3) (Option.some FieldType.boolean) am_g281 38 [some (.ref 133), some (.int (nI s)), some (.int (nI L)), some (.int (nI j)), o4, o5] [] (am_hp n μ1 ν) (mpQ V n ν μ1 s c (pntW V k s c m j)) := by
  intro m
  induction m with
  | zero =>
    intro j μ1 o4 o5 hj hinv
    refine am_q_iload_n rfl rfl ?_
    refine am_q_iload_n rfl rfl ?_
    refine am_q_igeN rfl (by omega) (by omega) (fun c_40 => ?_) (fun c_40 => absurd c_40 (by omega))
    refine am_q_iconst (v := nI 0) rfl rfl ?_
    refine am_q_ireturn rfl rfl rfl ?_
    exact ⟨_, rfl, frQ_rf _, hinv.2.2⟩
  | succ m ih =>
    intro j μ1 o4 o5 hj hinv
    have h6 := hO.1.1
    refine am_q_iload_n rfl rfl ?_
    refine am_q_iload_n rfl rfl ?_
    refine am_q_igeN rfl (by omega) (by omega) (fun c_40 => absurd c_40 (by omega)) (fun c_40 => ?_)
    refine am_q_iconst (v := nI 1) rfl rfl ?_
    refine am_q_istore [some _, some _, some _, some _, some _, _] rfl (Nat.le_of_ble_eq_true rfl) rfl ?_
    refine am_q_iconst (v := nI 0) rfl rfl ?_
    refine am_q_istore [some _, some _, some _, some _, some _, some _] rfl (Nat.le_of_ble_eq_true rfl) rfl ?_
    refine m_paiM d s L n ν hO hI hs hL j (by omega) hinv.1 hinv.2.2 _ ?_ s 0 (by omega)
    have hc2 : xC (fup c s (some j)) ((am_up μ1 150 s (nI j)) 150) (s + 1) := by rw [up150]; exact xC_up hinv.2.2 rfl (fun w hw => by cases hw; omega)
    obtain ⟨r, hr, μ2, rfl, hf2, hm2⟩ := hk (fup c s (some j)) (am_up μ1 150 s (nI j)) (mVal_Q frQ_up hinv.1) (mWall_Q frQ_up hinv.2.1) hc2
    have hf3 := frQ_tr (frQ_up (μ := μ1) (k := s) (v := nI j)) hf2
    have hbk : ∀ μ3, frQ μ1 μ3 → xC c (μ3 150) s → pntW V k s c (m + 1) j = pntW V k s c m (j + 1) → ∀ p4 p5, am_w (d + 3) (Option.some FieldType.boolean) am_g281 38 [some (.ref 133), some (.int (nI s)), some (.int (nI L)), some (.int (nI (j + 1))), p4, p5] [] (am_hp n μ3 ν) (mpQ V n ν μ1 s c (pntW V k s c (m + 1) j)) := fun μ3 a1 a2 a3 p4 p5 => by
      rw [a3]
      exact am_w_mono (fun y hy => by obtain ⟨μ4, b1, b2, b3⟩ := hy; exact ⟨μ4, b1, frQ_tr a1 b2, b3⟩) (ih (j + 1) μ3 p4 p5 (by omega) ⟨mVal_Q a1 hinv.1, mWall_Q a1 hinv.2.1, a2⟩)
    exact m_paiT d s L n ν hs (by omega) j (by omega) c (pce V (fup c s (some j)) s s) μ1 μ2 (k (fup c s (some j))).isSome _ hr (fun a => hbk _ frQ_up (xC_lt hc2 (by omega) (fun x hx => by unfold fup; rw [if_neg (by omega)])) (pntW_n (Or.inl a)) _ _) (fun a b => hbk _ hf3 (by
      rw [Option.isSome_eq_false_iff, Option.isNone_iff_eq_none] at b
      rw [b] at hm2
      exact xC_lt hm2 (by omega) (fun x hx => by unfold fup; rw [if_neg (by omega)])) (pntW_n (Or.inr (by rw [Option.isSome_eq_false_iff, Option.isNone_iff_eq_none] at b; exact b))) _ _) (fun a b => by
      obtain ⟨c', hc'⟩ := Option.isSome_iff_exists.mp b
      rw [pntW_y a hc']
      rw [hc'] at hm2
      exact ⟨μ2, rfl, hf3, hm2⟩)

theorem m_pai0 (d s L n : Nat) {V : sVal} {μ : am_M2} (ν : am_N2) (hV : mVal μ V) (hO : vOk V) (hs : s = vN V) {c : Nat → Option Nat} (hc : xC c (μ 150) s) : am_w (d + 3) (Option.some FieldType.boolean) am_g281 0 [some (.ref 133), some (.int (nI s)), some (.int (nI L)), none, none, none] [] (am_hp n μ ν) (mpQ V n ν μ s c (some c)) := by
  have h6 := hO.1.1
  refine am_q_iload_n rfl rfl ?_
  refine am_q_aload_n rfl rfl ?_
  refine am_q_call rfl rfl (m_souls _ _ _ hV) rfl ?_
  refine am_q_ineN rfl (by omega) (by omega) (fun c_5 => absurd c_5 (by omega)) (fun c_5 => ?_)
  refine am_q_iconst (v := nI 1) rfl rfl ?_
  refine am_q_ireturn rfl rfl rfl ?_
  exact ⟨_, rfl, frQ_rf _, by rw [hs] at hc; exact hc⟩

theorem m_pai1 (d s L n : Nat) {V : sVal} {W : sWall} (ν : am_N2) (hO : vOk V) (hI : sI (vN V) (vP V) W.1 W.2.1) (hs : s < vN V) (hL : L ≤ 7) (k : (Nat → Option Nat) → Option (Nat → Option Nat)) (hk : ∀ (c : Nat → Option Nat) (μ : am_M2), mVal μ V → mWall μ 0 W → xC c (μ 150) (s + 1) → ∃ r, am_run (d + 3) 281 [.ref 133, .int (nI (s + 1)), .int (nI L)] (am_hp n μ ν) = some r ∧ mpQ V n ν μ (s + 1) c (k c) r) {μ : am_M2} (hV : mVal μ V) (hW : mWall μ 0 W) {c : Nat → Option Nat} (hc : xC c (μ 150) s) (h4 : W.1 s = 4) : am_w (d + 3) (Option.some FieldType.boolean) am_g281 0 [some (.ref 133), some (.int (nI s)), some (.int (nI L)), none, none, none] [] (am_hp n μ ν) (mpQ V n ν μ s c (k (fup c s none))) := by
  have h6 := hO.1.1
  have hc2 : xC (fup c s none) ((am_up μ 150 s (-1)) 150) (s + 1) := by rw [up150]; exact xC_up hc rfl (fun w hw => by cases hw)
  obtain ⟨r, hr, μ2, rfl, hf2, hm2⟩ := hk (fup c s none) (am_up μ 150 s (-1)) (mVal_Q frQ_up hV) (mWall_Q frQ_up hW) hc2
  refine am_q_iload_n rfl rfl ?_
  refine am_q_aload_n rfl rfl ?_
  refine am_q_call rfl rfl (m_souls _ _ _ hV) rfl ?_
  refine am_q_ineN rfl (by omega) (by omega) (fun c_5 => ?_) (fun c_5 => absurd c_5 (by omega))
  refine am_q_aload_n rfl rfl ?_
  refine am_q_iconst (v := nI 0) rfl rfl ?_
  refine am_q_iload_n rfl rfl ?_
  refine am_q_call rfl rfl (m_isNowW _ n ν 0 (by decide) hW s (by omega)) rfl ?_
  refine am_q_iconst (v := nI 4) rfl rfl ?_
  refine am_q_ineN rfl (by omega) (by omega) (fun c_17 => absurd c_17 (by omega)) (fun c_17 => ?_)
  refine am_q_aload_n rfl rfl ?_
  refine am_q_gr rfl rfl rfl ?_
  refine am_q_iload_n rfl rfl ?_
  refine am_q_iconst (v := -1) rfl rfl ?_
  refine am_q_iast rfl rfl (by first | exact am_ix_nI (by omega) (by omega) | rfl) rfl ?_
  refine am_q_aload_n rfl rfl ?_
  refine am_q_iload_n rfl rfl ?_
  refine am_q_iconst (v := nI 1) rfl rfl ?_
  refine am_q_iadd rfl (nI_add _ _) ?_
  refine am_q_iload_n rfl rfl ?_
  refine am_q_call rfl rfl (hr) rfl ?_
  refine am_q_ireturn rfl rfl (sB_ok _) ?_
  refine ⟨μ2, rfl, frQ_tr frQ_up hf2, ?_⟩
  cases hq : k (fup c s none) with
  | some c1 => rw [hq] at hm2; exact hm2
  | none => rw [hq] at hm2; exact xC_lt hm2 (by omega) (fun x hx => by unfold fup; rw [if_neg (by omega)])

theorem m_pai2 (d s L n : Nat) {V : sVal} {W : sWall} (ν : am_N2) (hO : vOk V) (hI : sI (vN V) (vP V) W.1 W.2.1) (hs : s < vN V) (hL : L ≤ 7) (k : (Nat → Option Nat) → Option (Nat → Option Nat)) (hk : ∀ (c : Nat → Option Nat) (μ : am_M2), mVal μ V → mWall μ 0 W → xC c (μ 150) (s + 1) → ∃ r, am_run (d + 3) 281 [.ref 133, .int (nI (s + 1)), .int (nI L)] (am_hp n μ ν) = some r ∧ mpQ V n ν μ (s + 1) c (k c) r) {μ : am_M2} (hV : mVal μ V) (hW : mWall μ 0 W) {c : Nat → Option Nat} (hc : xC c (μ 150) s) (h4 : ¬ W.1 s = 4) : am_w (d + 3) (Option.some FieldType.boolean) am_g281 0 [some (.ref 133), some (.int (nI s)), some (.int (nI L)), none, none, none] [] (am_hp n μ ν) (mpQ V n ν μ s c (pntW V k s c L 0)) := by
  have h6 := hO.1.1
  have k4 := (hI s (by omega)).1
  refine am_q_iload_n rfl rfl ?_
  refine am_q_aload_n rfl rfl ?_
  refine am_q_call rfl rfl (m_souls _ _ _ hV) rfl ?_
  refine am_q_ineN rfl (by omega) (by omega) (fun c_5 => ?_) (fun c_5 => absurd c_5 (by omega))
  refine am_q_aload_n rfl rfl ?_
  refine am_q_iconst (v := nI 0) rfl rfl ?_
  refine am_q_iload_n rfl rfl ?_
  refine am_q_call rfl rfl (m_isNowW _ n ν 0 (by decide) hW s (by omega)) rfl ?_
  refine am_q_iconst (v := nI 4) rfl rfl ?_
  refine am_q_ineN rfl (by omega) (by omega) (fun c_17 => ?_) (fun c_17 => absurd c_17 (by omega))
  refine am_q_iconst (v := nI 0) rfl rfl ?_
  refine am_q_istore_n [some _, some _, some _, some _, none, none] rfl (Nat.le_of_ble_eq_true rfl) rfl ?_
  exact m_paiL d s L n ν hO hI hs hL k hk L 0 μ none none (by omega) ⟨hV, hW, hc⟩

theorem m_paints (L n : Nat) {V : sVal} {W : sWall} (ν : am_N2) (hO : vOk V) (hI : sI (vN V) (vP V) W.1 W.2.1) (hL : L ≤ 7) : ∀ (r d s : Nat) (c : Nat → Option Nat) (μ : am_M2), s + r = vN V → mVal μ V → mWall μ 0 W → xC c (μ 150) s → ∃ y, am_run (d + r + 4) 281 [.ref 133, .int (nI s), .int (nI L)] (am_hp n μ ν) = some y ∧ mpQ V n ν μ s c (pnt V (sNo V W) L r s c) y := by
  intro r
  induction r with
  | zero =>
    intro d s c μ hs hV hW hc
    exact am_run_wE (k := 281) (d := d + 3) rfl rfl (Nat.le_of_ble_eq_true rfl) [some (.ref 133), some (.int (nI s)), some (.int (nI L)), none, none, none] rfl (m_pai0 d s L n ν hV hO (by omega) hc)
  | succ r ih =>
    intro d s c μ hs hV hW hc
    have hk : ∀ (c : Nat → Option Nat) (μ : am_M2), mVal μ V → mWall μ 0 W → xC c (μ 150) (s + 1) → ∃ y, am_run (d + r + 1 + 3) 281 [.ref 133, .int (nI (s + 1)), .int (nI L)] (am_hp n μ ν) = some y ∧ mpQ V n ν μ (s + 1) c (pnt V (sNo V W) L r (s + 1) c) y := fun c μ a b e => ih d (s + 1) c μ (by omega) a b e
    have e : pnt V (sNo V W) L (r + 1) s c = if (sNo V W).testBit s = true then pntW V (pnt V (sNo V W) L r (s + 1)) s c L 0 else pnt V (sNo V W) L r (s + 1) (fup c s none) := rfl
    rw [e]
    have hw : am_w (d + r + 1 + 3) (Option.some FieldType.boolean) am_g281 0 [some (.ref 133), some (.int (nI s)), some (.int (nI L)), none, none, none] [] (am_hp n μ ν) (mpQ V n ν μ s c (if (sNo V W).testBit s = true then pntW V (pnt V (sNo V W) L r (s + 1)) s c L 0 else pnt V (sNo V W) L r (s + 1) (fup c s none))) := by
      by_cases h4 : W.1 s = 4
      · rw [if_neg (by rw [sNo_tb (by omega), decide_eq_false (fun z => z h4)]; exact Bool.false_ne_true)]
        exact m_pai1 (d + r + 1) s L n ν hO hI (by omega) hL _ hk hV hW hc h4
      · rw [if_pos (by rw [sNo_tb (by omega), decide_eq_true h4])]
        exact m_pai2 (d + r + 1) s L n ν hO hI (by omega) hL _ hk hV hW hc h4
    exact am_run_wE (k := 281) (d := d + r + 1 + 3) rfl rfl (Nat.le_of_ble_eq_true rfl) [some (.ref 133), some (.int (nI s)), some (.int (nI L)), none, none, none] rfl hw
theorem m_colL (d : Nat) (n : Nat) {V : sVal} {W : sWall} {μ : am_M2} (ν : am_N2) (hV : mVal μ V) (hO : vOk V) (hW : mWall μ 0 W) (hI : sI (vN V) (vP V) W.1 W.2.1) : ∀ (m j : Nat) (μ1 : am_M2), j + m = coN V (sNo V W) → frQ μ μ1 ∧ (∀ L, L < j → coB V (sNo V W) L = false) → am_w (d + 10) (Option.some FieldType.int) am_g280 2 [some (.ref 133), some (.int (nI j))] [] (am_hp n μ1 ν) (fun y => ∃ μ', y = (some (.int (nI (coN V (sNo V W)))), am_hp n μ' ν) ∧ frQ μ μ' ∧ xC (coC V (sNo V W)) (μ' 150) (vN V)) := by
  intro m
  induction m with
  | zero =>
    intro j μ1 hj hinv
    have h6 := hO.1.1
    have hcl := coN_lt hO (sNo V W)
    obtain ⟨c1, hc1⟩ := coN_some hO (sNo V W)
    have hjj : j = coN V (sNo V W) := by omega
    obtain ⟨y, hy, μ2, rfl, hf2, hm2⟩ := m_paints (W := W) j n ν hO hI (by omega) (vN V) (d + (6 - vN V)) 0 c0 μ1 (by omega) (mVal_Q hinv.1 hV) (mWall_Q hinv.1 hW) (fun x hx => by omega)
    rw [show d + (6 - vN V) + vN V + 4 = d + 10 by omega] at hy
    rw [hjj, hc1] at hm2
    have hb : (pnt V (sNo V W) j (vN V) 0 c0).isSome = true := by rw [hjj, hc1]; rfl
    rw [hb] at hy
    refine am_q_aload_n rfl rfl ?_
    refine am_q_iconst (v := nI 0) rfl rfl ?_
    refine am_q_iload_n rfl rfl ?_
    refine am_q_call rfl rfl (hy) rfl ?_
    refine am_q_if_neB rfl (fun c_8 => ?_) (fun c_8 => by simp at c_8)
    refine am_q_iload_n rfl rfl ?_
    refine am_q_ireturn rfl rfl rfl ?_
    rw [hjj]
    exact ⟨μ2, rfl, frQ_tr hinv.1 hf2, by show xC ((pnt V (sNo V W) (coN V (sNo V W)) (vN V) 0 c0).getD c0) _ _; rw [hc1]; exact hm2⟩
  | succ m ih =>
    intro j μ1 hj hinv
    have h6 := hO.1.1
    have hcl := coN_lt hO (sNo V W)
    obtain ⟨y, hy, μ2, rfl, hf2, hm2⟩ := m_paints (W := W) j n ν hO hI (by omega) (vN V) (d + (6 - vN V)) 0 c0 μ1 (by omega) (mVal_Q hinv.1 hV) (mWall_Q hinv.1 hW) (fun x hx => by omega)
    rw [show d + (6 - vN V) + vN V + 4 = d + 10 by omega] at hy
    have hb : (pnt V (sNo V W) j (vN V) 0 c0).isSome = false := fa_first_no (coB V (sNo V W)) 7 j (by show j < coN V (sNo V W); omega)
    rw [hb] at hy
    refine am_q_aload_n rfl rfl ?_
    refine am_q_iconst (v := nI 0) rfl rfl ?_
    refine am_q_iload_n rfl rfl ?_
    refine am_q_call rfl rfl (hy) rfl ?_
    refine am_q_if_neB rfl (fun c_8 => by simp at c_8) (fun c_8 => ?_)
    refine am_q_iinc [some _, some _] rfl (c := nI 1) rfl rfl (Nat.le_of_ble_eq_true rfl) (nI_add _ _) rfl ?_
    refine am_q_goto rfl ?_
    exact ih (j + 1) _ (by omega) ⟨frQ_tr hinv.1 hf2, fun L hL => by
              by_cases z : L = j
              · rw [z]; exact hb
              · exact hinv.2 L (by omega)⟩

/-- StoneSecretsModel.coloursNow()I -/
theorem m_coloursNow (d : Nat) (n : Nat) {V : sVal} {W : sWall} {μ : am_M2} (ν : am_N2) (hV : mVal μ V) (hO : vOk V) (hW : mWall μ 0 W) (hI : sI (vN V) (vP V) W.1 W.2.1) : ∃ (μ' : am_M2), am_run (d + 11) 280 [.ref 133] (am_hp n μ ν) = some (some (.int (nI (coN V (sNo V W)))), am_hp n μ' ν) ∧ frQ μ μ' ∧ xC (coC V (sNo V W)) (μ' 150) (vN V) := by
  have key : ∃ r, am_run (d + 11) 280 [.ref 133] (am_hp n μ ν) = some r ∧ ∃ (μ' : am_M2), r = (some (.int (nI (coN V (sNo V W)))), am_hp n μ' ν) ∧ frQ μ μ' ∧ xC (coC V (sNo V W)) (μ' 150) (vN V) := am_run_wE (k := 280) (d := d + 10) rfl rfl (Nat.le_of_ble_eq_true rfl) [some (.ref 133), none] rfl (by
    refine am_q_iconst (v := nI 0) rfl rfl ?_
    refine am_q_istore_n [some _, some _] rfl (Nat.le_of_ble_eq_true rfl) rfl ?_
    exact m_colL d n ν hV hO hW hI (coN V (sNo V W)) 0 μ (by omega) ⟨frQ_rf μ, fun L hL => by omega⟩)
  obtain ⟨r, h1, μ', h2, h3⟩ := key
  exact ⟨μ', by rw [h1, h2], h3⟩

/-- StoneSecretsModel.colours()I -/
theorem m_colours (d : Nat) (n : Nat) {V : sVal} {W : sWall} {μ : am_M2} (ν : am_N2) (hV : mVal μ V) (hO : vOk V) (hW : mWall μ 0 W) (hI : sI (vN V) (vP V) W.1 W.2.1) (ht : W.2.2 < 2 ^ 20) : ∃ (μ' : am_M2), am_run (d + 12) 279 [.ref 133] (am_hp n μ ν) = some (some (.int (nI (coN V (sNo V W)))), am_hp n μ' ν) ∧ fr μ μ' := by
  have h6 := hO.1.1
  have hP8 := hO.1.2.1
  have h8 := sI_8 hO hI
  have hpk := sI_p hI
  have hV0 := mVal_fr (fr_thr μ) hV
  have hW0 := mWall_fr (fr_thr μ) (by decide) hW
  have key : ∃ r, am_run (d + 12) 279 [.ref 133] (am_hp n μ ν) = some r ∧ ∃ (μ' : am_M2), r = (some (.int (nI (coN V (sNo V W)))), am_hp n μ' ν) ∧ fr μ μ' := am_run_wE (k := 279) (d := d + 11) rfl rfl (Nat.le_of_ble_eq_true rfl) [some (.ref 133)] rfl (by
    refine am_q_aload_n rfl rfl ?_
    refine am_q_iconst (v := nI 0) rfl rfl ?_
    refine am_q_pi rfl rfl rfl (Or.inl rfl) ?_
    refine am_q_aload_n rfl rfl ?_
    obtain ⟨μ2, hc2, hf2, hx2⟩ := m_coloursNow _ n ν hV0 hO hW0 hI
    refine am_q_call rfl rfl (hc2) rfl ?_
    refine am_q_ireturn rfl rfl rfl ?_
    exact ⟨_, rfl, fr_tr (fr_thr μ) (fr_Q hf2)⟩)
  obtain ⟨r, h1, μ', h2, h3⟩ := key
  exact ⟨μ', by rw [h1, h2], h3⟩

/-- StoneSecretsModel.colour(I)I -/
theorem m_colour (d : Nat) (s : Int32) (n : Nat) {V : sVal} {W : sWall} {μ : am_M2} (ν : am_N2) (hV : mVal μ V) (hO : vOk V) (hW : mWall μ 0 W) (hI : sI (vN V) (vP V) W.1 W.2.1) (ht : W.2.2 < 2 ^ 20) : ∃ (μ' : am_M2), am_run (d + 12) 282 [.ref 133, .int s] (am_hp n μ ν) = some (some (.int (qColour V W s)), am_hp n μ' ν) ∧ fr μ μ' := by
  have h6 := hO.1.1
  have hP8 := hO.1.2.1
  have h8 := sI_8 hO hI
  have hpk := sI_p hI
  have hV0 := mVal_fr (fr_thr μ) hV
  have hW0 := mWall_fr (fr_thr μ) (by decide) hW
  have key : ∃ r, am_run (d + 12) 282 [.ref 133, .int s] (am_hp n μ ν) = some r ∧ ∃ (μ' : am_M2), r = (some (.int (qColour V W s)), am_hp n μ' ν) ∧ fr μ μ' := am_run_wE (k := 282) (d := d + 11) rfl rfl (Nat.le_of_ble_eq_true rfl) [some (.ref 133), some (.int s)] rfl (by
    refine am_q_aload_n rfl rfl ?_
    refine am_q_iconst (v := nI 0) rfl rfl ?_
    refine am_q_pi rfl rfl rfl (Or.inl rfl) ?_
    refine am_q_aload_n rfl rfl ?_
    obtain ⟨μ2, hc2, hf2, hx2⟩ := m_coloursNow _ n ν hV0 hO hW0 hI
    refine am_q_call rfl rfl (hc2) rfl ?_
    refine am_q_popi rfl ?_
    refine am_q_aload_n rfl rfl ?_
    refine am_q_iload_n rfl rfl ?_
    refine am_q_call rfl rfl (m_isSoul _ _ _ _ (mVal_Q hf2 hV0) hO) rfl ?_
    refine am_q_if_eqB rfl (fun c_15 => ?_) (fun c_15 => ?_)
    · refine am_q_iconst (v := -1) rfl rfl ?_
      refine am_q_ireturn rfl rfl rfl ?_
      rw [qColour, if_neg (fun z => by rw [c_15] at z; cases z.1)]
      exact ⟨_, rfl, fr_tr (fr_thr μ) (fr_Q hf2)⟩
    · obtain ⟨k, hk, rfl, hix⟩ := isI c_15 (by omega)
      refine am_q_aload_n rfl rfl ?_
      refine am_q_gr rfl rfl rfl ?_
      refine am_q_iload_n rfl rfl ?_
      refine am_q_iald rfl rfl (am_ix_nI (show k < 6 by omega) (by decide)) (hx2 k hk).1 ?_
      refine am_q_goto rfl ?_
      refine am_q_ireturn rfl rfl rfl ?_
      have hq : qColour V W (nI k) = sn_place (coC V (sNo V W) k) := by
        rw [qColour, sIs_nI hk (by omega), ik_nI (by omega)]
        by_cases h4 : W.1 k = 4
        · rw [if_neg (fun z => by rw [decide_eq_true h4] at z; cases z.2)]
          obtain ⟨c1, hc1⟩ := coN_some hO (sNo V W)
          have := (pnt_keep _ _ _ _ hc1).2 k (by omega) (by omega) (by rw [sNo_tb hk, decide_eq_false (fun z => z h4)])
          show _ = sn_place (((pnt V (sNo V W) (coN V (sNo V W)) (vN V) 0 c0).getD c0) k)
          rw [hc1]; show _ = sn_place (c1 k); rw [this]; rfl
        · rw [if_pos ⟨c_15, decide_eq_false h4⟩]
      rw [hq]
      exact ⟨_, rfl, fr_tr (fr_thr μ) (fr_Q hf2)⟩)
  obtain ⟨r, h1, μ', h2, h3⟩ := key
  exact ⟨μ', by rw [h1, h2], h3⟩
