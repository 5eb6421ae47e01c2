def sFr (V : sVal) (pl : Nat → Option Nat) : Nat := sBits (sFree pl) (vP V)
theorem sFr_tb (V : sVal) (pl : Nat → Option Nat) (k : Nat) : (sFr V pl).testBit k = (decide (k < vP V) && sFree pl k) := sBits_tb _ _ _
theorem sFr_lt {V : sVal} (hO : vOk V) (pl : Nat → Option Nat) : sFr V pl < 256 := Nat.lt_of_lt_of_le (sBits_lt _ _) (Nat.pow_le_pow_right (by decide) hO.1.2.1)
theorem sn_free {V : sVal} {pl : Nat → Option Nat} (hO : vOk V) (h8 : sPl8 pl) : nI (2 ^ vP V - 1) &&& (nI (sTk pl) ^^^ -1) = nI (sFr V pl) := by
  have hT := sTk_lt h8
  rw [sn_andn _ (Nat.lt_trans hT (by decide))]
  congr 1
  apply Nat.eq_of_testBit_eq
  intro i
  rw [sFr_tb, Nat.testBit_and, Nat.testBit_two_pow_sub_one, Nat.testBit_two_pow_sub_succ (Nat.lt_trans hT (by decide))]
  have hP := hO.1.2.1
  by_cases h : i < vP V
  · simp [h, sFree, show i < 32 by omega]
  · simp [h]
def gB (E : Nat) : Nat := lpF (fun k x => if E.testBit k = true ∧ (k = 0 ∨ E.testBit (k - 1) = false) then x + 1 else x) 0 8
def gE (E : Nat) : Nat := sBits (fun k => decide (E.testBit k = true ∧ (k = 0 ∨ E.testBit (k - 1) = false))) 8
theorem gB_ok : ∀ E, E < 256 → nI E &&& ((nI E <<< (nI 1 &&& 31)) ^^^ -1) = nI (gE E) ∧ gE E < 1024 ∧ sn_bc (gE E) = gB E := by decide +kernel
theorem lpF_more {α : Type} {f : Nat → α → α} {a : α} {n : Nat} : ∀ m, (∀ k x, n ≤ k → k < n + m → f k x = x) → lpF f a (n + m) = lpF f a n
  | 0, _ => rfl
  | m + 1, h => by rw [← Nat.add_assoc, lpF_s, h _ _ (by omega) (by omega)]; exact lpF_more m (fun k x a b => h k x a (by omega))
theorem gB_gaps {V : sVal} (hO : vOk V) (pl : Nat → Option Nat) : gB (sFr V pl) = sGaps pl (vP V) := by
  have hP := hO.1.2.1
  rw [gB, sGaps, show 8 = vP V + (8 - vP V) by omega, lpF_more _ (fun k x h1 h2 => by rw [sFr_tb]; simp [show ¬ k < vP V by omega])]
  apply lpF_cong
  intro k x hk
  rw [sFr_tb, sFr_tb]
  simp [hk, show k - 1 < vP V by omega]
/-- StoneSecrets.gaps()I -/
theorem x_gaps (d : Nat) (n : Nat) {V : sVal} {W : sWall} {μ : am_M2} (ν : am_N2) (hV : xVal μ V) (hO : vOk V) (hW : xWall μ 35 W) (hI : sI (vN V) (vP V) W.1 W.2.1) (ht : W.2.2 < 2 ^ 20) : am_run (d + 2) 148 [.ref 2] (am_hp n μ ν) = some (some (.int (nI (sGaps W.2.1 (vP V)))), am_hp n μ ν) := by
  have h6 := hO.1.1
  have hP8 := hO.1.2.1
  have h8 := sI_8 hO hI
  have hE := gB_ok _ (sFr_lt hO W.2.1)
  refine am_r148 (d := d + 1) (Nat.le_of_ble_eq_true rfl) [some (.ref 2), none, none] rfl ?_
  refine am_q_aload_n rfl rfl ?_
  refine am_q_gr rfl rfl rfl ?_
  refine am_q_call rfl rfl (s_allPlaces _ _ _ hV.1) rfl ?_
  refine am_q_aload_n rfl rfl ?_
  refine am_q_gr rfl rfl rfl ?_
  refine am_q_gr rfl rfl rfl ?_
  refine am_q_call rfl rfl (s_taken _ n 37 (fun s => sn_sp (W.2.1 s)) _ ν _ rfl (fun k hk => (hW.2.1 k hk).trans (sn_spot_eq _))) rfl ?_
  refine am_q_iconst (v := -1) rfl rfl ?_
  refine am_q_ixor rfl rfl ?_
  refine am_q_iand rfl (sn_free hO h8) ?_
  refine am_q_istore_n [some _, some _, none] rfl (Nat.le_of_ble_eq_true rfl) rfl ?_
  refine am_q_iload_n rfl rfl ?_
  refine am_q_iload_n rfl rfl ?_
  refine am_q_iconst (v := nI 1) rfl rfl ?_
  refine am_q_ishl rfl rfl ?_
  refine am_q_iconst (v := -1) rfl rfl ?_
  refine am_q_ixor rfl rfl ?_
  refine am_q_iand rfl hE.1 ?_
  refine am_q_istore_n [some _, some _, some _] rfl (Nat.le_of_ble_eq_true rfl) rfl ?_
  refine am_q_iload_n rfl rfl ?_
  refine am_q_call rfl rfl (s_bitCount _ _ hE.2.1 _) rfl ?_
  refine am_q_ireturn rfl rfl rfl ?_
  rw [hE.2.2, gB_gaps hO]

theorem sWide_y {pl : Nat → Option Nat} {j : Nat} (h : sFree pl j = true) : sWide pl (j + 1) = (if (sWide pl j).1 < (sWide pl j).2 + 1 then (sWide pl j).2 + 1 else (sWide pl j).1, (sWide pl j).2 + 1) := by
  rw [sWide, lpF_s]
  simp only [h, if_true]
theorem sWide_n {pl : Nat → Option Nat} {j : Nat} (h : sFree pl j = false) : sWide pl (j + 1) = ((sWide pl j).1, 0) := by
  rw [sWide, lpF_s]
  simp only [h, Bool.false_eq_true, if_false]
theorem sWide_le (pl : Nat → Option Nat) : ∀ n, (sWide pl n).1 ≤ n ∧ (sWide pl n).2 ≤ n
  | 0 => ⟨Nat.le_refl _, Nat.le_refl _⟩
  | n + 1 => by
    have h := sWide_le pl n
    cases hf : sFree pl n with
    | true =>
      rw [sWide_y hf]
      refine ⟨?_, ?_⟩
      · dsimp only
        split <;> omega
      · show (sWide pl n).2 + 1 ≤ _
        omega
    | false =>
      rw [sWide_n hf]
      exact ⟨(show (sWide pl n).1 ≤ n + 1 by omega), Nat.zero_le _⟩
theorem x_widestL (d : Nat) (n : Nat) {V : sVal} {W : sWall} {μ : am_M2} (ν : am_N2) (hV : xVal μ V) (hO : vOk V) (hW : xWall μ 35 W) (hI : sI (vN V) (vP V) W.1 W.2.1) (ht : W.2.2 < 2 ^ 20) : ∀ (m j : Nat) , j + m = vP V → am_w (d + 1) (Option.some FieldType.int) am_g149 28 [some (.ref 2), some (.int (nI (sFr V W.2.1))), some (.int (nI ((sWide W.2.1 j).1))), some (.int (nI ((sWide W.2.1 j).2))), some (.int (nI j))] [] (am_hp n μ ν) (fun y => y = (some (.int (nI (sWide W.2.1 (vP V)).1)), am_hp n μ ν)) := by
  intro m
  induction m with
  | zero =>
    intro j  hj
    have h6 := hO.1.1
    have hP8 := hO.1.2.1
    have h8 := sI_8 hO hI
    refine am_q_iload rfl rfl ?_
    refine am_q_aload_n rfl rfl ?_
    refine am_q_gr rfl rfl rfl ?_
    refine am_q_gi rfl rfl rfl hV.1.2.2.1 ?_
    refine am_q_igeN rfl (by omega) (by omega) (fun c_37 => ?_) (fun c_37 => absurd c_37 (by omega))
    refine am_q_iload_n rfl rfl ?_
    refine am_q_ireturn rfl rfl rfl ?_
    rw [show j = vP V by omega]
  | succ m ih =>
    intro j  hj
    have h6 := hO.1.1
    have hP8 := hO.1.2.1
    have h8 := sI_8 hO hI
    have e := ih (j + 1) (by omega)
    have hw := sWide_le W.2.1 j
    refine am_q_iload rfl rfl ?_
    refine am_q_aload_n rfl rfl ?_
    refine am_q_gr rfl rfl rfl ?_
    refine am_q_gi rfl rfl rfl hV.1.2.2.1 ?_
    refine am_q_igeN rfl (by omega) (by omega) (fun c_37 => absurd c_37 (by omega)) (fun c_37 => ?_)
    refine am_q_iload_n rfl rfl ?_
    refine am_q_iload rfl rfl ?_
    refine am_q_call rfl rfl (s_hasN _ _ j (Nat.lt_trans (sFr_lt hO _) (by decide)) (by omega) _) rfl ?_
    rw [sFr_tb, decide_eq_true (show j < vP V by omega), Bool.true_and]
    refine am_q_if_eqB rfl (fun c_46 => ?_) (fun c_46 => ?_)
    · rw [sWide_n c_46] at e
      refine am_q_iconst (v := nI 0) rfl rfl ?_
      refine am_q_istore_n [some _, some _, some _, some _, some _] rfl (Nat.le_of_ble_eq_true rfl) rfl ?_
      refine am_q_iload_n rfl rfl ?_
      refine am_q_iload_n rfl rfl ?_
      refine am_q_call rfl rfl (s_max _ _ _ _) rfl ?_
      rw [nI_max (by omega) (by omega)]
      refine am_q_istore_n [some _, some _, some _, some _, some _] rfl (Nat.le_of_ble_eq_true rfl) rfl ?_
      refine am_q_iinc [some _, some _, some _, some _, some _] rfl (c := nI 1) rfl rfl (Nat.le_of_ble_eq_true rfl) (nI_add _ _) rfl ?_
      refine am_q_goto rfl ?_
      first | exact e | (rw [if_neg (by omega)]; exact e)
    · rw [sWide_y c_46] at e
      refine am_q_iload_n rfl rfl ?_
      refine am_q_iconst (v := nI 1) rfl rfl ?_
      refine am_q_iadd rfl (nI_add _ _) ?_
      refine am_q_goto rfl ?_
      refine am_q_istore_n [some _, some _, some _, some _, some _] rfl (Nat.le_of_ble_eq_true rfl) rfl ?_
      refine am_q_iload_n rfl rfl ?_
      refine am_q_iload_n rfl rfl ?_
      refine am_q_call rfl rfl (s_max _ _ _ _) rfl ?_
      rw [nI_max (by omega) (by omega)]
      refine am_q_istore_n [some _, some _, some _, some _, some _] rfl (Nat.le_of_ble_eq_true rfl) rfl ?_
      refine am_q_iinc [some _, some _, some _, some _, some _] rfl (c := nI 1) rfl rfl (Nat.le_of_ble_eq_true rfl) (nI_add _ _) rfl ?_
      refine am_q_goto rfl ?_
      first | exact e | (rw [if_neg (by omega)]; exact e)

/-- StoneSecrets.widest()I -/
theorem x_widest (d : Nat) (n : Nat) {V : sVal} {W : sWall} {μ : am_M2} (ν : am_N2) (hV : xVal μ V) (hO : vOk V) (hW : xWall μ 35 W) (hI : sI (vN V) (vP V) W.1 W.2.1) (ht : W.2.2 < 2 ^ 20) : am_run (d + 2) 149 [.ref 2] (am_hp n μ ν) = some (some (.int (nI (sWide W.2.1 (vP V)).1)), am_hp n μ ν) := by
  have h6 := hO.1.1
  have hP8 := hO.1.2.1
  have h8 := sI_8 hO hI
  refine am_r149 (d := d + 1) (Nat.le_of_ble_eq_true rfl) [some (.ref 2), none, none, none, none] rfl ?_
  refine am_q_aload_n rfl rfl ?_
  refine am_q_gr rfl rfl rfl ?_
  refine am_q_call rfl rfl (s_allPlaces _ _ _ hV.1) rfl ?_
  refine am_q_aload_n rfl rfl ?_
  refine am_q_gr rfl rfl rfl ?_
  refine am_q_gr rfl rfl rfl ?_
  refine am_q_call rfl rfl (s_taken _ n 37 (fun s => sn_sp (W.2.1 s)) _ ν _ rfl (fun k hk => (hW.2.1 k hk).trans (sn_spot_eq _))) rfl ?_
  refine am_q_iconst (v := -1) rfl rfl ?_
  refine am_q_ixor rfl rfl ?_
  refine am_q_iand rfl (sn_free hO h8) ?_
  refine am_q_istore_n [some _, some _, none, none, none] rfl (Nat.le_of_ble_eq_true rfl) rfl ?_
  refine am_q_iconst (v := nI 0) rfl rfl ?_
  refine am_q_istore_n [some _, some _, some _, none, none] rfl (Nat.le_of_ble_eq_true rfl) rfl ?_
  refine am_q_iconst (v := nI 0) rfl rfl ?_
  refine am_q_istore_n [some _, some _, some _, some _, none] rfl (Nat.le_of_ble_eq_true rfl) rfl ?_
  refine am_q_iconst (v := nI 0) rfl rfl ?_
  refine am_q_istore [some _, some _, some _, some _, some _] rfl (Nat.le_of_ble_eq_true rfl) rfl ?_
  exact x_widestL d n ν hV hO hW hI ht (vP V) 0 (by omega)

theorem sHeavy_lt (V : sVal) (W : sWall) : ∀ n b, sHeavy V W n = some b → b < n
  | 0, b, h => by cases h
  | n + 1, b, h => by
    rw [sHeavy, lpF_s] at h
    split at h
    · cases h; omega
    · have := sHeavy_lt V W n b h; omega
theorem sHeavy_y {V : sVal} {W : sWall} {j : Nat} (h : W.1 j = 2) (h2 : ∀ b, sHeavy V W j = some b → vW V b < vW V j) : sHeavy V W (j + 1) = some j := if_pos ⟨h, h2⟩
theorem sHeavy_n {V : sVal} {W : sWall} {j : Nat} (h : ¬ (W.1 j = 2 ∧ ∀ b, sHeavy V W j = some b → vW V b < vW V j)) : sHeavy V W (j + 1) = sHeavy V W j := if_neg h
theorem x_heavyL (d : Nat) (n : Nat) {V : sVal} {W : sWall} {μ : am_M2} (ν : am_N2) (hV : xVal μ V) (hO : vOk V) (hW : xWall μ 35 W) (hI : sI (vN V) (vP V) W.1 W.2.1) (ht : W.2.2 < 2 ^ 20) : ∀ (m j : Nat) (o3 : Option Value), j + m = vN V → am_w (d + 2) (Option.some FieldType.int) am_g150 4 [some (.ref 2), some (.int (sn_place (sHeavy V W j))), some (.int (nI j)), o3] [] (am_hp n μ ν) (fun y => y = (some (.int (sn_place (sHeavy V W (vN V)))), am_hp n μ ν)) := by
  intro m
  induction m with
  | zero =>
    intro j o3 hj
    have h6 := hO.1.1
    have hP8 := hO.1.2.1
    have h8 := sI_8 hO hI
    refine am_q_iload_n rfl rfl ?_
    refine am_q_aload_n rfl rfl ?_
    refine am_q_gr rfl rfl rfl ?_
    refine am_q_gi rfl rfl rfl hV.1.1 ?_
    refine am_q_igeN rfl (by omega) (by omega) (fun c_12 => ?_) (fun c_12 => absurd c_12 (by omega))
    refine am_q_iload_n rfl rfl ?_
    refine am_q_ireturn rfl rfl rfl ?_
    rw [show j = vN V by omega]
  | succ m ih =>
    intro j o3 hj
    have h6 := hO.1.1
    have hP8 := hO.1.2.1
    have h8 := sI_8 hO hI
    have hl := sHeavy_lt V W j
    refine am_q_iload_n rfl rfl ?_
    refine am_q_aload_n rfl rfl ?_
    refine am_q_gr rfl rfl rfl ?_
    refine am_q_gi rfl rfl rfl hV.1.1 ?_
    refine am_q_igeN rfl (by omega) (by omega) (fun c_12 => absurd c_12 (by omega)) (fun c_12 => ?_)
    refine am_q_iload_n rfl rfl ?_
    refine am_q_iconst (v := -1) rfl rfl ?_
    refine am_q_icmp_eq rfl (fun c_17 => ?_) (fun c_17 => ?_)
    · have hq := pl_none c_17 (fun k hk => by have := hl k hk; omega)
      have hb : ∀ b, sHeavy V W j = some b → vW V b < vW V j := fun b q => by rw [hq] at q; cases q
      refine am_q_iconst (v := nI 1) rfl rfl ?_
      refine am_q_goto rfl ?_
      refine am_q_istore_n [some _, some _, some _, some _] rfl (Nat.le_of_ble_eq_true rfl) rfl ?_
      refine am_q_iload_n rfl rfl ?_
      refine am_q_zeqN rfl (by omega) (fun c_48 => absurd c_48 (by omega)) (fun c_48 => ?_)
      refine am_q_aload_n rfl rfl ?_
      refine am_q_gr rfl rfl rfl ?_
      refine am_q_iload_n rfl rfl ?_
      refine am_q_iconst (v := nI 2) rfl rfl ?_
      refine am_q_call rfl rfl (s_is35 _ _ _ (by omega) _ _ hV.1 hW hI) rfl ?_
      rw [sIs_nI (show j < vN V by omega) (by omega)]
      refine am_q_if_eqB rfl (fun c_60 => ?_) (fun c_60 => ?_)
      · refine am_q_iinc [some _, some _, some _, some _] rfl (c := nI 1) rfl rfl (Nat.le_of_ble_eq_true rfl) (nI_add _ _) rfl ?_
        refine am_q_goto rfl ?_
        first | (have e := fun o => ih (j + 1) o (by omega); simp only [sHeavy_n hn] at e; exact e _) | (have e := fun o => ih (j + 1) o (by omega); simp only [sHeavy_y (of_decide_eq_true c_60) hb] at e; exact e _) | (have e := fun o => ih (j + 1) o (by omega); simp only [sHeavy_n (V := V) (W := W) (j := j) (fun z => by simp [z.1] at c_60)] at e; exact e _)
      · refine am_q_iload_n rfl rfl ?_
        refine am_q_istore_n [some _, some _, some _, some _] rfl (Nat.le_of_ble_eq_true rfl) rfl ?_
        refine am_q_iinc [some _, some _, some _, some _] rfl (c := nI 1) rfl rfl (Nat.le_of_ble_eq_true rfl) (nI_add _ _) rfl ?_
        refine am_q_goto rfl ?_
        first | (have e := fun o => ih (j + 1) o (by omega); simp only [sHeavy_n hn] at e; exact e _) | (have e := fun o => ih (j + 1) o (by omega); simp only [sHeavy_y (of_decide_eq_true c_60) hb] at e; exact e _) | (have e := fun o => ih (j + 1) o (by omega); simp only [sHeavy_n (V := V) (W := W) (j := j) (fun z => by simp [z.1] at c_60)] at e; exact e _)
    · obtain ⟨b, hb0⟩ := pl_some c_17
      have hbl := hl b hb0
      have w1 := vW_le hO (s := b) (by omega)
      have w2 := vW_le hO (s := j) (by omega)
      refine am_q_aload_n rfl rfl ?_
      refine am_q_gr rfl rfl rfl ?_
      refine am_q_gr rfl rfl rfl ?_
      refine am_q_iload_n rfl rfl ?_
      refine am_q_iald rfl rfl (by first | exact am_ix_nI (by omega) (by omega) | rfl) (hV.2.2.2.1 _ (by omega)).2.2.2.1 ?_
      refine am_q_aload_n rfl rfl ?_
      refine am_q_gr rfl rfl rfl ?_
      refine am_q_gr rfl rfl rfl ?_
      refine am_q_iload_n rfl rfl ?_
      refine am_q_iald rfl rfl (by rw [hb0]; exact am_ix_nI (show b < 6 by omega) (by decide)) (hV.2.2.2.1 b (by omega)).2.2.2.1 ?_
      refine am_q_ileN rfl (by omega) (by omega) (fun c_38 => ?_) (fun c_38 => ?_)
      · have hn : ¬ (W.1 j = 2 ∧ ∀ b, sHeavy V W j = some b → vW V b < vW V j) := fun z => by have := z.2 b hb0; omega
        refine am_q_iconst (v := nI 0) rfl rfl ?_
        refine am_q_istore_n [some _, some _, some _, some _] rfl (Nat.le_of_ble_eq_true rfl) rfl ?_
        refine am_q_iload_n rfl rfl ?_
        refine am_q_zeqN rfl (by omega) (fun c_48 => ?_) (fun c_48 => absurd c_48 (by omega))
        refine am_q_iinc [some _, some _, some _, some _] rfl (c := nI 1) rfl rfl (Nat.le_of_ble_eq_true rfl) (nI_add _ _) rfl ?_
        refine am_q_goto rfl ?_
        first | (have e := fun o => ih (j + 1) o (by omega); simp only [sHeavy_n hn] at e; exact e _) | (have e := fun o => ih (j + 1) o (by omega); simp only [sHeavy_y (of_decide_eq_true c_60) hb] at e; exact e _) | (have e := fun o => ih (j + 1) o (by omega); simp only [sHeavy_n (V := V) (W := W) (j := j) (fun z => by simp [z.1] at c_60)] at e; exact e _)
      · have hb : ∀ b, sHeavy V W j = some b → vW V b < vW V j := fun b q => by rw [hb0] at q; cases q; exact c_38
        refine am_q_iconst (v := nI 1) rfl rfl ?_
        refine am_q_goto rfl ?_
        refine am_q_istore_n [some _, some _, some _, some _] rfl (Nat.le_of_ble_eq_true rfl) rfl ?_
        refine am_q_iload_n rfl rfl ?_
        refine am_q_zeqN rfl (by omega) (fun c_48 => absurd c_48 (by omega)) (fun c_48 => ?_)
        refine am_q_aload_n rfl rfl ?_
        refine am_q_gr rfl rfl rfl ?_
        refine am_q_iload_n rfl rfl ?_
        refine am_q_iconst (v := nI 2) rfl rfl ?_
        refine am_q_call rfl rfl (s_is35 _ _ _ (by omega) _ _ hV.1 hW hI) rfl ?_
        rw [sIs_nI (show j < vN V by omega) (by omega)]
        refine am_q_if_eqB rfl (fun c_60 => ?_) (fun c_60 => ?_)
        · refine am_q_iinc [some _, some _, some _, some _] rfl (c := nI 1) rfl rfl (Nat.le_of_ble_eq_true rfl) (nI_add _ _) rfl ?_
          refine am_q_goto rfl ?_
          first | (have e := fun o => ih (j + 1) o (by omega); simp only [sHeavy_n hn] at e; exact e _) | (have e := fun o => ih (j + 1) o (by omega); simp only [sHeavy_y (of_decide_eq_true c_60) hb] at e; exact e _) | (have e := fun o => ih (j + 1) o (by omega); simp only [sHeavy_n (V := V) (W := W) (j := j) (fun z => by simp [z.1] at c_60)] at e; exact e _)
        · refine am_q_iload_n rfl rfl ?_
          refine am_q_istore_n [some _, some _, some _, some _] rfl (Nat.le_of_ble_eq_true rfl) rfl ?_
          refine am_q_iinc [some _, some _, some _, some _] rfl (c := nI 1) rfl rfl (Nat.le_of_ble_eq_true rfl) (nI_add _ _) rfl ?_
          refine am_q_goto rfl ?_
          first | (have e := fun o => ih (j + 1) o (by omega); simp only [sHeavy_n hn] at e; exact e _) | (have e := fun o => ih (j + 1) o (by omega); simp only [sHeavy_y (of_decide_eq_true c_60) hb] at e; exact e _) | (have e := fun o => ih (j + 1) o (by omega); simp only [sHeavy_n (V := V) (W := W) (j := j) (fun z => by simp [z.1] at c_60)] at e; exact e _)

/-- StoneSecrets.heavy()I -/
theorem x_heavy (d : Nat) (n : Nat) {V : sVal} {W : sWall} {μ : am_M2} (ν : am_N2) (hV : xVal μ V) (hO : vOk V) (hW : xWall μ 35 W) (hI : sI (vN V) (vP V) W.1 W.2.1) (ht : W.2.2 < 2 ^ 20) : am_run (d + 3) 150 [.ref 2] (am_hp n μ ν) = some (some (.int (sn_place (sHeavy V W (vN V)))), am_hp n μ ν) := by
  refine am_r150 (d := d + 2) (Nat.le_of_ble_eq_true rfl) [some (.ref 2), none, none, none] rfl ?_
  refine am_q_iconst (v := -1) rfl rfl ?_
  refine am_q_istore_n [some _, some _, none, none] rfl (Nat.le_of_ble_eq_true rfl) rfl ?_
  refine am_q_iconst (v := nI 0) rfl rfl ?_
  refine am_q_istore_n [some _, some _, some _, none] rfl (Nat.le_of_ble_eq_true rfl) rfl ?_
  exact x_heavyL d n ν hV hO hW hI ht (vN V) 0 none (by omega)

theorem sn_adj : ∀ p, p < 8 → ∀ q, q < 8 → (nI (2 ^ q) &&& nI (2 ^ (p + 1) ||| 2 ^ p / 2) = 0) = ((decide (q = p + 1) || decide (q + 1 = p)) = false) := by decide +kernel
theorem sAdj_0 {pl : Nat → Option Nat} (h8 : sPl8 pl) {p j : Nat} (hp : p < 8) (hj : j < 6) : (sn_spot (pl j) &&& nI (sBs (some p)) = 0) ↔ sAdj pl p j = false := by
  unfold sAdj
  cases hq : pl j with
  | none => exact ⟨fun _ => rfl, fun _ => (show nI 0 &&& nI (sBs (some p)) = 0 by rw [sn_and, Nat.zero_and]; rfl)⟩
  | some q => exact iff_of_eq (sn_adj p hp q (h8 j hj q hq))
theorem sBits_s (f : Nat → Bool) (n : Nat) : sBits f (n + 1) = (if f n = true then sBits f n ||| 2 ^ n else sBits f n) := by
  apply Nat.eq_of_testBit_eq
  intro i
  rw [sBits_tb]
  split
  · rename_i h
    rw [Nat.testBit_or, sBits_tb, Nat.testBit_two_pow]
    by_cases z : i = n
    · subst z; simp [h]
    · simp [show (i < n + 1) = (i < n) from propext ⟨fun _ => by omega, fun _ => by omega⟩, show ¬ n = i from fun e => z e.symm]
  · rename_i h
    rw [sBits_tb]
    by_cases z : i = n
    · subst z; simp [h]
    · simp [show (i < n + 1) = (i < n) from propext ⟨fun _ => by omega, fun _ => by omega⟩]
theorem x_besideL (d k p : Nat) (n : Nat) {V : sVal} {W : sWall} {μ : am_M2} (ν : am_N2) (hV : xVal μ V) (hO : vOk V) (hW : xWall μ 35 W) (hI : sI (vN V) (vP V) W.1 W.2.1) (ht : W.2.2 < 2 ^ 20) (hp : p < 8) : ∀ (m j : Nat) , j + m = vN V → am_w (d + 2) (Option.some FieldType.int) am_g151 32 [some (.ref 2), some (.int (nI k)), some (.int (nI (sBs (some p)))), some (.int (nI (sBits (sAdj W.2.1 p) j))), some (.int (nI j))] [] (am_hp n μ ν) (fun y => y = (some (.int (nI (sBits (sAdj W.2.1 p) (vN V)))), am_hp n μ ν)) := by
  intro m
  induction m with
  | zero =>
    intro j  hj
    have h6 := hO.1.1
    have hP8 := hO.1.2.1
    have h8 := sI_8 hO hI
    refine am_q_iload rfl rfl ?_
    refine am_q_aload_n rfl rfl ?_
    refine am_q_gr rfl rfl rfl ?_
    refine am_q_gi rfl rfl rfl hV.1.1 ?_
    refine am_q_igeN rfl (by omega) (by omega) (fun c_41 => ?_) (fun c_41 => absurd c_41 (by omega))
    refine am_q_iload_n rfl rfl ?_
    refine am_q_ireturn rfl rfl rfl ?_
    rw [show j = vN V by omega]
  | succ m ih =>
    intro j  hj
    have h6 := hO.1.1
    have hP8 := hO.1.2.1
    have h8 := sI_8 hO hI
    have e := ih (j + 1) (by omega)
    rw [sBits_s] at e
    refine am_q_iload rfl rfl ?_
    refine am_q_aload_n rfl rfl ?_
    refine am_q_gr rfl rfl rfl ?_
    refine am_q_gi rfl rfl rfl hV.1.1 ?_
    refine am_q_igeN rfl (by omega) (by omega) (fun c_41 => absurd c_41 (by omega)) (fun c_41 => ?_)
    refine am_q_aload_n rfl rfl ?_
    refine am_q_gr rfl rfl rfl ?_
    refine am_q_gr rfl rfl rfl ?_
    refine am_q_iload rfl rfl ?_
    refine am_q_iald rfl rfl (by first | exact am_ix_nI (by omega) (by omega) | rfl) (hW.2.1 _ (by omega)) ?_
    refine am_q_iload_n rfl rfl ?_
    refine am_q_iand rfl rfl ?_
    refine am_q_if_eq rfl (fun c_56 => ?_) (fun c_56 => ?_)
    · rw [if_neg (by simp [(sAdj_0 h8 hp (show j < 6 by omega)).mp c_56])] at e
      refine am_q_iinc [some _, some _, some _, some _, some _] rfl (c := nI 1) rfl rfl (Nat.le_of_ble_eq_true rfl) (nI_add _ _) rfl ?_
      refine am_q_goto rfl ?_
      exact e
    · rw [if_pos (by cases hz : sAdj W.2.1 p j with | true => rfl | false => exact absurd ((sAdj_0 h8 hp (show j < 6 by omega)).mpr hz) c_56)] at e
      refine am_q_iload_n rfl rfl ?_
      refine am_q_iconst (v := nI 1) rfl rfl ?_
      refine am_q_iload rfl rfl ?_
      refine am_q_ishl rfl (sn_shl1 (by omega)) ?_
      refine am_q_ior rfl (sn_or _ _) ?_
      refine am_q_istore_n [some _, some _, some _, some _, some _] rfl (Nat.le_of_ble_eq_true rfl) rfl ?_
      refine am_q_iinc [some _, some _, some _, some _, some _] rfl (c := nI 1) rfl rfl (Nat.le_of_ble_eq_true rfl) (nI_add _ _) rfl ?_
      refine am_q_goto rfl ?_
      exact e

/-- StoneSecrets.beside(I)I -/
theorem x_beside (d : Nat) (s : Int32) (n : Nat) {V : sVal} {W : sWall} {μ : am_M2} (ν : am_N2) (hV : xVal μ V) (hO : vOk V) (hW : xWall μ 35 W) (hI : sI (vN V) (vP V) W.1 W.2.1) (ht : W.2.2 < 2 ^ 20) : am_run (d + 3) 151 [.ref 2, .int s] (am_hp n μ ν) = some (some (.int (qBeside V W s)), am_hp n μ ν) := by
  have h6 := hO.1.1
  have hP8 := hO.1.2.1
  have h8 := sI_8 hO hI
  refine am_r151 (d := d + 2) (Nat.le_of_ble_eq_true rfl) [some (.ref 2), some (.int s), none, none, none] rfl ?_
  refine am_q_aload_n rfl rfl ?_
  refine am_q_gr rfl rfl rfl ?_
  refine am_q_iload_n rfl rfl ?_
  refine am_q_iconst (v := nI 2) rfl rfl ?_
  refine am_q_call rfl rfl (s_is35 _ _ _ (by omega) _ _ hV.1 hW hI) rfl ?_
  refine am_q_if_neB rfl (fun c_9 => ?_) (fun c_9 => ?_)
  · obtain ⟨k, hk, rfl, hst, hix⟩ := isK c_9 h6
    obtain ⟨p, hp⟩ := Option.isSome_iff_exists.mp ((hI k (by omega)).2.1.mpr hst)
    have hp8 := h8 k (by omega) p hp
    refine am_q_aload_n rfl rfl ?_
    refine am_q_gr rfl rfl rfl ?_
    refine am_q_gr rfl rfl rfl ?_
    refine am_q_iload_n rfl rfl ?_
    refine am_q_iald rfl rfl (by first | exact am_ix_nI (by omega) (by omega) | rfl) (hW.2.1 _ (by omega)) ?_
    refine am_q_call rfl rfl (s_besideSpot _ _ _) rfl ?_
    rw [sn_bsq (h8 k (by omega)), hp]
    refine am_q_istore_n [some _, some _, some _, none, none] rfl (Nat.le_of_ble_eq_true rfl) rfl ?_
    refine am_q_iconst (v := nI 0) rfl rfl ?_
    refine am_q_istore_n [some _, some _, some _, some _, none] rfl (Nat.le_of_ble_eq_true rfl) rfl ?_
    refine am_q_iconst (v := nI 0) rfl rfl ?_
    refine am_q_istore [some _, some _, some _, some _, some _] rfl (Nat.le_of_ble_eq_true rfl) rfl ?_
    have e := x_besideL d k p n ν hV hO hW hI ht hp8 (vN V) 0 (by omega)
    rw [qBeside, if_pos c_9, ik_nI (by omega), hp]
    exact e
  · refine am_q_iconst (v := -1) rfl rfl ?_
    refine am_q_ireturn rfl rfl rfl ?_
    rw [qBeside, if_neg (by simp [c_9])]

theorem sLike_le (V : sVal) (s : Nat) : ∀ n x, lpF (fun b y => if vW V s = vW V b then y + 1 else y) x n ≤ x + n
  | 0, x => Nat.le_refl _
  | n + 1, x => by
    have := sLike_le V s n x
    rw [lpF_s]
    split <;> omega
theorem x_likeI (d i x : Nat) (n : Nat) {V : sVal} {W : sWall} {μ : am_M2} (ν : am_N2) (hV : xVal μ V) (hO : vOk V) (hW : xWall μ 35 W) (hI : sI (vN V) (vP V) W.1 W.2.1) (ht : W.2.2 < 2 ^ 20) (hi : i < vN V) (hx : x < 2 ^ 20) (Q : am_R → Prop) (K : am_w (d + 2) (Option.some FieldType.int) am_g152 52 [some (.ref 2), some (.int (nI (lpF (fun b y => if vW V i = vW V b then y + 1 else y) x i))), some (.int (nI i)), some (.int (nI i))] [] (am_hp n μ ν) Q) : ∀ (m j : Nat) , j + m = i → am_w (d + 2) (Option.some FieldType.int) am_g152 17 [some (.ref 2), some (.int (nI (lpF (fun b y => if vW V i = vW V b then y + 1 else y) x j))), some (.int (nI i)), some (.int (nI j))] [] (am_hp n μ ν) (Q) := by
  intro m
  induction m with
  | zero =>
    intro j  hj
    have h6 := hO.1.1
    have hP8 := hO.1.2.1
    have h8 := sI_8 hO hI
    have hji : j = i := by omega
    subst hji
    refine am_q_iload_n rfl rfl ?_
    refine am_q_iload_n rfl rfl ?_
    refine am_q_igeN rfl (by omega) (by omega) (fun c_19 => ?_) (fun c_19 => absurd c_19 (by omega))
    exact K
  | succ m ih =>
    intro j  hj
    have h6 := hO.1.1
    have hP8 := hO.1.2.1
    have h8 := sI_8 hO hI
    have e := ih (j + 1) (by omega)
    rw [lpF_s] at e
    have w1 := vW_le hO (s := i) (by omega)
    have w2 := vW_le hO (s := j) (by omega)
    refine am_q_iload_n rfl rfl ?_
    refine am_q_iload_n rfl rfl ?_
    refine am_q_igeN rfl (by omega) (by omega) (fun c_19 => absurd c_19 (by omega)) (fun c_19 => ?_)
    refine am_q_aload_n rfl rfl ?_
    refine am_q_gr rfl rfl rfl ?_
    refine am_q_gr rfl rfl rfl ?_
    refine am_q_iload_n rfl rfl ?_
    refine am_q_iald rfl rfl (by first | exact am_ix_nI (by omega) (by omega) | rfl) (hV.2.2.2.1 _ (by omega)).2.2.2.1 ?_
    refine am_q_aload_n rfl rfl ?_
    refine am_q_gr rfl rfl rfl ?_
    refine am_q_gr rfl rfl rfl ?_
    refine am_q_iload_n rfl rfl ?_
    refine am_q_iald rfl rfl (by first | exact am_ix_nI (by omega) (by omega) | rfl) (hV.2.2.2.1 _ (by omega)).2.2.2.1 ?_
    refine am_q_ineN rfl (by omega) (by omega) (fun c_40 => ?_) (fun c_40 => ?_)
    · rw [if_neg c_40] at e
      refine am_q_iinc [some _, some _, some _, some _] rfl (c := nI 1) rfl rfl (Nat.le_of_ble_eq_true rfl) (nI_add _ _) rfl ?_
      refine am_q_goto rfl ?_
      exact e
    · rw [if_pos c_40] at e
      refine am_q_iinc [some _, some _, some _, some _] rfl (c := nI 1) rfl rfl (Nat.le_of_ble_eq_true rfl) (nI_add _ _) rfl ?_
      refine am_q_iinc [some _, some _, some _, some _] rfl (c := nI 1) rfl rfl (Nat.le_of_ble_eq_true rfl) (nI_add _ _) rfl ?_
      refine am_q_goto rfl ?_
      exact e

theorem sLike_b (V : sVal) : ∀ n, n ≤ 6 → sLike V n ≤ 6 * n
  | 0, _ => Nat.le_refl _
  | n + 1, h => by
    have h1 := sLike_b V n (by omega)
    have h2 := sLike_le V n n (sLike V n)
    rw [sLike, lpF_s]
    rw [sLike] at h1 h2
    omega
theorem x_likeL (d : Nat) (n : Nat) {V : sVal} {W : sWall} {μ : am_M2} (ν : am_N2) (hV : xVal μ V) (hO : vOk V) (hW : xWall μ 35 W) (hI : sI (vN V) (vP V) W.1 W.2.1) (ht : W.2.2 < 2 ^ 20) : ∀ (m j : Nat) (o3 : Option Value), j + m = vN V → am_w (d + 2) (Option.some FieldType.int) am_g152 4 [some (.ref 2), some (.int (nI (sLike V j))), some (.int (nI j)), o3] [] (am_hp n μ ν) (fun y => y = (some (.int (nI (sLike V (vN V)))), am_hp n μ ν)) := by
  intro m
  induction m with
  | zero =>
    intro j o3 hj
    have h6 := hO.1.1
    have hP8 := hO.1.2.1
    have h8 := sI_8 hO hI
    refine am_q_iload_n rfl rfl ?_
    refine am_q_aload_n rfl rfl ?_
    refine am_q_gr rfl rfl rfl ?_
    refine am_q_gi rfl rfl rfl hV.1.1 ?_
    refine am_q_igeN rfl (by omega) (by omega) (fun c_12 => ?_) (fun c_12 => absurd c_12 (by omega))
    refine am_q_iload_n rfl rfl ?_
    refine am_q_ireturn rfl rfl rfl ?_
    rw [show j = vN V by omega]
  | succ m ih =>
    intro j o3 hj
    have h6 := hO.1.1
    have hP8 := hO.1.2.1
    have h8 := sI_8 hO hI
    have hb := sLike_b V j (by omega)
    refine am_q_iload_n rfl rfl ?_
    refine am_q_aload_n rfl rfl ?_
    refine am_q_gr rfl rfl rfl ?_
    refine am_q_gi rfl rfl rfl hV.1.1 ?_
    refine am_q_igeN rfl (by omega) (by omega) (fun c_12 => absurd c_12 (by omega)) (fun c_12 => ?_)
    refine am_q_iconst (v := nI 0) rfl rfl ?_
    refine am_q_istore_n [some _, some _, some _, some _] rfl (Nat.le_of_ble_eq_true rfl) rfl ?_
    refine x_likeI d j (sLike V j) n ν hV hO hW hI ht (by omega) (by omega) _ ?_ j 0 (by omega)
    refine am_q_iinc [some _, some _, some _, some _] rfl (c := nI 1) rfl rfl (Nat.le_of_ble_eq_true rfl) (nI_add _ _) rfl ?_
    refine am_q_goto rfl ?_
    exact ih (j + 1) _ (by omega)

/-- StoneSecrets.like()I -/
theorem x_like (d : Nat) (n : Nat) {V : sVal} {W : sWall} {μ : am_M2} (ν : am_N2) (hV : xVal μ V) (hO : vOk V) (hW : xWall μ 35 W) (hI : sI (vN V) (vP V) W.1 W.2.1) (ht : W.2.2 < 2 ^ 20) : am_run (d + 3) 152 [.ref 2] (am_hp n μ ν) = some (some (.int (nI (sLike V (vN V)))), am_hp n μ ν) := by
  refine am_r152 (d := d + 2) (Nat.le_of_ble_eq_true rfl) [some (.ref 2), none, none, none] rfl ?_
  refine am_q_iconst (v := nI 0) rfl rfl ?_
  refine am_q_istore_n [some _, some _, none, none] rfl (Nat.le_of_ble_eq_true rfl) rfl ?_
  refine am_q_iconst (v := nI 0) rfl rfl ?_
  refine am_q_istore_n [some _, some _, some _, none] rfl (Nat.le_of_ble_eq_true rfl) rfl ?_
  exact x_likeL d n ν hV hO hW hI ht (vN V) 0 none (by omega)
