def oI (q : Option Nat) : Int32 := match q with
  | none => -1
  | some j => nI j
def whF (X : tTp) (i a : Nat) : Nat → Option Nat := lpF (fun j x => if isWd X i (a + j) = true then some j else x) none
theorem whF_s (X : tTp) (i a j : Nat) : whF X i a (j + 1) = if isWd X i (a + j) = true then some j else whF X i a j := rfl
theorem whF_lt {X : tTp} {i a : Nat} : ∀ m j, whF X i a m = some j → j < m ∧ isWd X i (a + j) = true
  | 0, j, h => by cases h
  | m + 1, j, h => by
    rw [whF_s] at h
    split at h
    · rename_i c; injection h with h; rw [← h]; exact ⟨Nat.lt_succ_self _, c⟩
    · obtain ⟨x, y⟩ := whF_lt m j h; exact ⟨by omega, y⟩
theorem whF_none {X : tTp} {i a : Nat} : ∀ m, whF X i a m = none ↔ ∀ j, j < m → isWd X i (a + j) = false
  | 0 => ⟨fun _ j hj => absurd hj (Nat.not_lt_zero _), fun _ => rfl⟩
  | m + 1 => by
    rw [whF_s]
    constructor
    · intro h j hj
      by_cases c : isWd X i (a + m) = true
      · rw [if_pos c] at h; cases h
      · rw [if_neg c] at h
        by_cases e : j = m
        · rw [e]; simpa using c
        · exact (whF_none m).mp h j (by omega)
    · intro h
      rw [if_neg (by rw [h m (by omega)]; exact Bool.false_ne_true)]
      exact (whF_none m).mpr (fun j hj => h j (by omega))
theorem lg_i22' : ∀ r, r < 22 → ∀ s, s < 22 → lg r = lg s → r = s := by decide +kernel
theorem isWd_u {X : tTp} {i r s : Nat} (hr : r < 22) (hs : s < 22) (h : isWd X i r = true) (h' : isWd X i s = true) : r = s := by
  unfold isWd at h h'
  rw [Bool.and_eq_true] at h h'
  exact lg_i22' r hr s hs ((of_decide_eq_true h.2).symm.trans (of_decide_eq_true h'.2))
theorem whF_some {X : tTp} {i a m j : Nat} (ha : a + m ≤ 22) (hj : j < m) (h : isWd X i (a + j) = true) : whF X i a m = some j := by
  cases e : whF X i a m with
  | none => rw [(whF_none m).mp e j hj] at h; cases h
  | some k =>
    obtain ⟨x, y⟩ := whF_lt m k e
    rw [show k = j by have := isWd_u (by omega) (by omega) y h; omega]
theorem nm_wh {X : tTp} {i : Nat} (hk : kd X i = 2) : isNm X i = decide (whF X i 0 18 = none) := by
  unfold isNm
  rw [decide_eq_true hk, Bool.true_and]
  refine decide_eq_decide.mpr ?_
  rw [whF_none]
  constructor
  · intro h j hj
    rw [Nat.zero_add]
    unfold isWd
    rw [decide_eq_true hk, Bool.true_and]
    have := fa_first_no (fun r => decide (lg r = wd X i)) 18 j (by unfold lgI at h; omega)
    exact decide_eq_false (fun z => absurd z.symm (of_decide_eq_false this))
  · intro h
    by_cases z : 18 ≤ lgI (wd X i)
    · exact z
    · have := fa_first_yes (fun r => decide (lg r = wd X i)) 18 (by unfold lgI at z; omega)
      have h1 := h _ (show fa_first (fun r => decide (lg r = wd X i)) 18 < 18 by unfold lgI at z; omega)
      rw [Nat.zero_add] at h1
      unfold isWd at h1
      rw [decide_eq_true hk, Bool.true_and] at h1
      exact absurd (of_decide_eq_true this).symm (of_decide_eq_false h1)
theorem kd_wh {X : tTp} {i : Nat} : whF X i 11 4 = isKd X i := by
  unfold isKd
  by_cases h0 : isWd X i 11 = true
  · rw [if_pos h0]; exact whF_some (j := 0) (by decide) (by decide) h0
  · rw [if_neg h0]
    by_cases h1 : isWd X i 12 = true
    · rw [if_pos h1]; exact whF_some (j := 1) (by decide) (by decide) h1
    · rw [if_neg h1]
      by_cases h2 : isWd X i 13 = true
      · rw [if_pos h2]; exact whF_some (j := 2) (by decide) (by decide) h2
      · rw [if_neg h2]
        by_cases h3 : isWd X i 14 = true
        · rw [if_pos h3]; exact whF_some (j := 3) (by decide) (by decide) h3
        · rw [if_neg h3]
          refine (whF_none 4).mpr (fun j hj => ?_)
          rcases (show j = 0 ∨ j = 1 ∨ j = 2 ∨ j = 3 by omega) with rfl | rfl | rfl | rfl
          · simpa using h0
          · simpa using h1
          · simpa using h2
          · simpa using h3
theorem dd_wh {X : tTp} {i : Nat} : whF X i 7 4 = isDd X i := by
  unfold isDd
  by_cases h0 : isWd X i 7 = true
  · rw [if_pos h0]; exact whF_some (j := 0) (by decide) (by decide) h0
  · rw [if_neg h0]
    by_cases h1 : isWd X i 8 = true
    · rw [if_pos h1]; exact whF_some (j := 1) (by decide) (by decide) h1
    · rw [if_neg h1]
      by_cases h2 : isWd X i 9 = true
      · rw [if_pos h2]; exact whF_some (j := 2) (by decide) (by decide) h2
      · rw [if_neg h2]
        by_cases h3 : isWd X i 10 = true
        · rw [if_pos h3]; exact whF_some (j := 3) (by decide) (by decide) h3
        · rw [if_neg h3]
          refine (whF_none 4).mpr (fun j hj => ?_)
          rcases (show j = 0 ∨ j = 1 ∨ j = 2 ∨ j = 3 by omega) with rfl | rfl | rfl | rfl
          · simpa using h0
          · simpa using h1
          · simpa using h2
          · simpa using h3
theorem oI_neg {q : Option Nat} (h : ∀ j, q = some j → j < 2 ^ 31) : oI q < 0 ↔ q = none := by
  cases q with
  | none => exact ⟨fun _ => rfl, fun _ => by decide⟩
  | some j => exact ⟨fun z => absurd z (nI_pos (h j rfl)), fun z => by cases z⟩
theorem m_whL (d a M : Nat) (hM : a + M ≤ 22) (n i : Nat) {X : tTp} {μ : am_M2} (ν : am_N2) (hX : tpOk X) (hP : mP μ ν X i) : ∀ (m j : Nat) , j + m = M → am_w (d + 1) (Option.some FieldType.int) am_g195 5 [some (.ref 133), some (.int (nI a)), some (.int (nI M)), some (.int (oI (whF X i a j))), some (.int (nI j))] [] (am_hp n μ ν) (fun r => r = (some (.int (oI (whF X i a M))), am_hp n μ ν)) := by
  intro m
  induction m with
  | zero =>
    intro j  hj
    refine am_q_iload rfl rfl ?_
    refine am_q_iload_n rfl rfl ?_
    refine am_q_igeN rfl (by omega) (by omega) (fun c_8 => ?_) (fun c_8 => absurd c_8 (by omega))
    refine am_q_iload_n rfl rfl ?_
    refine am_q_ireturn rfl rfl rfl ?_
    have e : j = M := by omega
    subst e
    rfl
  | succ m ih =>
    intro j  hj
    refine am_q_iload rfl rfl ?_
    refine am_q_iload_n rfl rfl ?_
    refine am_q_igeN rfl (by omega) (by omega) (fun c_8 => absurd c_8 (by omega)) (fun c_8 => ?_)
    refine am_q_aload_n rfl rfl ?_
    refine am_q_iload_n rfl rfl ?_
    refine am_q_iload rfl rfl ?_
    refine am_q_iadd rfl (nI_add _ _) ?_
    refine am_q_call rfl rfl (m_isWord0 _ (a + j) (by omega) n i ν hX hP) rfl ?_
    refine am_q_if_eqB rfl (fun c_19 => ?_) (fun c_19 => ?_)
    · refine am_q_iload_n rfl rfl ?_
      refine am_q_istore_n [some _, some _, some _, some _, some _] rfl (Nat.le_of_ble_eq_true rfl) rfl ?_
      refine am_q_iinc [some _, some _, some _, some _, some _] rfl (c := nI 1) rfl rfl (Nat.le_of_ble_eq_true rfl) (nI_add _ _) rfl ?_
      refine am_q_goto rfl ?_
      have e := whF_s X i a j
      first
      | (rw [if_pos (by assumption)] at e; have g := ih (j + 1) (by omega); rw [e] at g; exact g)
      | (rw [if_neg (fun z => by rw [z] at c_19; cases c_19)] at e; have g := ih (j + 1) (by omega); rw [e] at g; exact g)
    · refine am_q_iload rfl rfl ?_
      refine am_q_goto rfl ?_
      refine am_q_istore_n [some _, some _, some _, some _, some _] rfl (Nat.le_of_ble_eq_true rfl) rfl ?_
      refine am_q_iinc [some _, some _, some _, some _, some _] rfl (c := nI 1) rfl rfl (Nat.le_of_ble_eq_true rfl) (nI_add _ _) rfl ?_
      refine am_q_goto rfl ?_
      have e := whF_s X i a j
      first
      | (rw [if_pos (by assumption)] at e; have g := ih (j + 1) (by omega); rw [e] at g; exact g)
      | (rw [if_neg (fun z => by rw [z] at c_19; cases c_19)] at e; have g := ih (j + 1) (by omega); rw [e] at g; exact g)

/-- StoneSecretsModel.wordHere(II)I -/
theorem m_wordHere0 (d : Nat) (a M : Nat) (hM : a + M ≤ 22) (n i : Nat) {X : tTp} {μ : am_M2} (ν : am_N2) (hX : tpOk X) (hP : mP μ ν X i) : am_run (d + 2) 195 [.ref 133, .int (nI a), .int (nI M)] (am_hp n μ ν) = some (some (.int (oI (whF X i a M))), am_hp n μ ν) := by
  refine am_r195 (d := d + 1) (Nat.le_of_ble_eq_true rfl) [some (.ref 133), some (.int (nI a)), some (.int (nI M)), none, none] rfl ?_
  refine am_q_iconst (v := -1) rfl rfl ?_
  refine am_q_istore_n [some _, some _, some _, some _, none] rfl (Nat.le_of_ble_eq_true rfl) rfl ?_
  refine am_q_iconst (v := nI 0) rfl rfl ?_
  refine am_q_istore [some _, some _, some _, some _, some _] rfl (Nat.le_of_ble_eq_true rfl) rfl ?_
  exact m_whL d a M hM n i ν hX hP M 0 (by omega)

/-- StoneSecretsModel.isName()Z -/
theorem m_isName0 (d : Nat) (n i : Nat) {X : tTp} {μ : am_M2} (ν : am_N2) (hX : tpOk X) (hP : mP μ ν X i) : am_run (d + 3) 194 [.ref 133] (am_hp n μ ν) = some (some (.int (sB (isNm X i))), am_hp n μ ν) := by
  have hP0 := hP
  have hN := tN_1k hX
  obtain ⟨hT, hG, hA, hF, hi⟩ := hP
  obtain ⟨t1, t2, t3, t4, t5⟩ := hT i hi
  have hkc := mS_c (kd_le X i)
  have hk4 := kd_le X i
  have hpl := pl_1k hX i
  refine am_r194 (d := d + 2) (Nat.le_of_ble_eq_true rfl) [some (.ref 133)] rfl ?_
  refine am_q_aload_n rfl rfl ?_
  refine am_q_gi rfl rfl rfl hF ?_
  refine am_q_zneN rfl (by omega) (fun c_4 => absurd c_4 (by omega)) (fun c_4 => ?_)
  refine am_q_aload_n rfl rfl ?_
  refine am_q_gr rfl rfl rfl ?_
  refine am_q_aload_n rfl rfl ?_
  refine am_q_gi rfl rfl rfl hA ?_
  refine am_q_iald rfl rfl (am_ix_nI (show i < 1002 by omega) (by decide)) t1 ?_
  refine am_q_iconst (v := nI 1) rfl rfl ?_
  refine am_q_ineN rfl (by omega) (by omega) (fun c_17 => ?_) (fun c_17 => ?_)
  · have hk : ¬ kd X i = 2 := fun z => c_17 (hkc.2.1.mpr z)
    refine am_q_iconst (v := nI 0) rfl rfl ?_
    refine am_q_ireturn rfl rfl rfl ?_
    first
    | (have e : isNm X i = false := (by unfold isNm; rw [decide_eq_false hk, Bool.false_and]); rw [e]; rfl)
    | (rw [hn, decide_eq_true (hl.mp (Int32.not_le.mp c_27))]; rfl)
    | (rw [hn, decide_eq_false (fun z => absurd (hl.mpr z) (Int32.not_lt.mpr c_27))]; rfl)
  · have hk : kd X i = 2 := hkc.2.1.mp c_17
    have hn := nm_wh hk
    have hl := oI_neg (q := whF X i 0 18) (fun j hj => by have := (whF_lt _ _ hj).1; omega)
    refine am_q_aload_n rfl rfl ?_
    refine am_q_iconst (v := nI 0) rfl rfl ?_
    refine am_q_bipush (v := nI 18) rfl rfl ?_
    refine am_q_call rfl rfl (m_wordHere0 _ 0 18 (by decide) n i ν hX hP0) rfl ?_
    refine am_q_if_ge rfl (fun c_27 => ?_) (fun c_27 => ?_)
    · refine am_q_iconst (v := nI 0) rfl rfl ?_
      refine am_q_ireturn rfl rfl rfl ?_
      first
      | (have e : isNm X i = false := (by unfold isNm; rw [decide_eq_false hk, Bool.false_and]); rw [e]; rfl)
      | (rw [hn, decide_eq_true (hl.mp (Int32.not_le.mp c_27))]; rfl)
      | (rw [hn, decide_eq_false (fun z => absurd (hl.mpr z) (Int32.not_lt.mpr c_27))]; rfl)
    · refine am_q_iconst (v := nI 1) rfl rfl ?_
      refine am_q_goto rfl ?_
      refine am_q_ireturn rfl rfl rfl ?_
      first
      | (have e : isNm X i = false := (by unfold isNm; rw [decide_eq_false hk, Bool.false_and]); rw [e]; rfl)
      | (rw [hn, decide_eq_true (hl.mp (Int32.not_le.mp c_27))]; rfl)
      | (rw [hn, decide_eq_false (fun z => absurd (hl.mpr z) (Int32.not_lt.mpr c_27))]; rfl)
