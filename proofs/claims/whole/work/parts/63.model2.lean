/-- StoneSecretsModel.isNow(II)I -/
theorem m_isNow (d : Nat) (n : Nat) {V : sVal} {W : sWall} {μ : am_M2} (ν : am_N2) (hV : mVal μ V) (hO : vOk V) (b : Nat) (hb : b + 13 ≤ 836) (hW : mWall μ b W) (hI : sI (vN V) (vP V) W.1 W.2.1) (s : Nat) (hs : s < 6) : am_run (d + 1) 222 [.ref 133, .int (nI b), .int (nI s)] (am_hp n μ ν) = some (some (.int (nI (W.1 s))), am_hp n μ ν) := by
  refine am_r222 (d := d + 0) (Nat.le_of_ble_eq_true rfl) [some (.ref 133), some (.int (nI b)), some (.int (nI s))] rfl ?_
  refine am_q_aload_n rfl rfl ?_
  refine am_q_gr rfl rfl rfl ?_
  refine am_q_iload_n rfl rfl ?_
  refine am_q_iconst (v := nI 1) rfl rfl ?_
  refine am_q_iadd rfl (nI_add _ _) ?_
  refine am_q_iload_n rfl rfl ?_
  refine am_q_iadd rfl (nI_add _ _) ?_
  refine am_q_iald rfl rfl (by first | exact am_ix_nI (by omega) (by omega) | rfl) (hW.2 s hs).1 ?_
  refine am_q_ireturn rfl rfl rfl ?_
  rfl

theorem m_whoL (d : Nat) (n : Nat) {V : sVal} {W : sWall} {μ : am_M2} (ν : am_N2) (hV : mVal μ V) (hO : vOk V) (b : Nat) (hb : b + 13 ≤ 836) (hW : mWall μ b W) (hI : sI (vN V) (vP V) W.1 W.2.1) (x : Nat) (hx : x ≤ 4) : ∀ (m j : Nat) , j + m = vN V → am_w (d + 1) (Option.some FieldType.int) am_g247 5 [some (.ref 133), some (.int (nI b)), some (.int (nI x)), some (.int (nI (sBits (fun s => decide (W.1 s = x)) j))), some (.int (nI j))] [] (am_hp n μ ν) (fun y => y = (some (.int (nI (sBits (fun s => decide (W.1 s = x)) (vN V)))), am_hp n μ ν)) := by
  intro m
  induction m with
  | zero =>
    intro j  hj
    have h6 := hO.1.1
    have hP8 := hO.1.2.1
    refine am_q_iload rfl rfl ?_
    refine am_q_aload_n rfl rfl ?_
    refine am_q_call rfl rfl (m_souls _ _ _ hV) rfl ?_
    refine am_q_igeN rfl (by omega) (by omega) (fun c_11 => ?_) (fun c_11 => absurd c_11 (by omega))
    refine am_q_iload_n rfl rfl ?_
    refine am_q_ireturn rfl rfl rfl ?_
    rw [show j = vN V by omega]
  | succ m ih =>
    intro j  hj
    have h6 := hO.1.1
    have hP8 := hO.1.2.1
    have e := ih (j + 1) (by omega)
    rw [sBits_s] at e
    have k1 := (hI j (by omega)).1
    refine am_q_iload rfl rfl ?_
    refine am_q_aload_n rfl rfl ?_
    refine am_q_call rfl rfl (m_souls _ _ _ hV) rfl ?_
    refine am_q_igeN rfl (by omega) (by omega) (fun c_11 => absurd c_11 (by omega)) (fun c_11 => ?_)
    refine am_q_iload_n rfl rfl ?_
    refine am_q_aload_n rfl rfl ?_
    refine am_q_iload_n rfl rfl ?_
    refine am_q_iload rfl rfl ?_
    refine am_q_call rfl rfl (m_isNow _ n ν hV hO b hb hW hI _ (by omega)) rfl ?_
    refine am_q_iload_n rfl rfl ?_
    refine am_q_ineN rfl (by omega) (by omega) (fun c_23 => ?_) (fun c_23 => ?_)
    · rw [if_neg (by simp [c_23])] at e
      refine am_q_iconst (v := nI 0) rfl rfl ?_
      refine am_q_ior rfl (sn_or _ _) ?_
      refine am_q_istore_n [some _, some _, some _, some _, some _] rfl (Nat.le_of_ble_eq_true rfl) rfl ?_
      refine am_q_iinc [some _, some _, some _, some _, some _] rfl (c := nI 1) rfl rfl (Nat.le_of_ble_eq_true rfl) (nI_add _ _) rfl ?_
      refine am_q_goto rfl ?_
      first | exact e | (rw [Nat.or_zero]; exact e)
    · rw [if_pos (by simp [c_23])] at e
      refine am_q_iconst (v := nI 1) rfl rfl ?_
      refine am_q_iload rfl rfl ?_
      refine am_q_ishl rfl (sn_shl1 (by omega)) ?_
      refine am_q_goto rfl ?_
      refine am_q_ior rfl (sn_or _ _) ?_
      refine am_q_istore_n [some _, some _, some _, some _, some _] rfl (Nat.le_of_ble_eq_true rfl) rfl ?_
      refine am_q_iinc [some _, some _, some _, some _, some _] rfl (c := nI 1) rfl rfl (Nat.le_of_ble_eq_true rfl) (nI_add _ _) rfl ?_
      refine am_q_goto rfl ?_
      first | exact e | (rw [Nat.or_zero]; exact e)

/-- StoneSecretsModel.who(II)I -/
theorem m_who (d : Nat) (n : Nat) {V : sVal} {W : sWall} {μ : am_M2} (ν : am_N2) (hV : mVal μ V) (hO : vOk V) (b : Nat) (hb : b + 13 ≤ 836) (hW : mWall μ b W) (hI : sI (vN V) (vP V) W.1 W.2.1) (x : Nat) (hx : x ≤ 4) : am_run (d + 2) 247 [.ref 133, .int (nI b), .int (nI x)] (am_hp n μ ν) = some (some (.int (nI (sBits (fun s => decide (W.1 s = x)) (vN V)))), am_hp n μ ν) := by
  refine am_r247 (d := d + 1) (Nat.le_of_ble_eq_true rfl) [some (.ref 133), some (.int (nI b)), some (.int (nI x)), none, none] rfl ?_
  refine am_q_iconst (v := nI 0) rfl rfl ?_
  refine am_q_istore_n [some _, some _, some _, some _, none] rfl (Nat.le_of_ble_eq_true rfl) rfl ?_
  refine am_q_iconst (v := nI 0) rfl rfl ?_
  refine am_q_istore [some _, some _, some _, some _, some _] rfl (Nat.le_of_ble_eq_true rfl) rfl ?_
  exact m_whoL d n ν hV hO b hb hW hI x hx (vN V) 0 (by omega)

def mAt (pl : Nat → Option Nat) (p : Nat) : Nat → Option Nat := lpF (fun s x => if pl s = some p then some s else x) none
theorem mAt_iff {V : sVal} {pl : Nat → Option Nat} (h6 : vN V ≤ 6) (hp : pOk V pl) (p i : Nat) : ∀ n, n ≤ vN V → (mAt pl p n = some i ↔ i < n ∧ pl i = some p)
  | 0, _ => ⟨fun h => (by cases h), fun h => by omega⟩
  | n + 1, hn => by
    have ih := mAt_iff h6 hp p i n (by omega)
    have e : mAt pl p (n + 1) = if pl n = some p then some n else mAt pl p n := rfl
    rw [e]
    by_cases hc : pl n = some p
    · rw [if_pos hc]
      constructor
      · intro h; cases h; exact ⟨by omega, hc⟩
      · intro h
        by_cases z : i = n
        · rw [z]
        · exact absurd (h.2.trans hc.symm) (((hp i (by omega)).2.2 n (by omega) z) (by rw [h.2]; exact fun e => by cases e))
    · rw [if_neg hc, ih]
      constructor
      · intro h; exact ⟨by omega, h.2⟩
      · intro h
        refine ⟨?_, h.2⟩
        by_cases z : i = n
        · rw [z] at h; exact absurd h.2 hc
        · omega
theorem mAt_eq {V : sVal} {pl : Nat → Option Nat} (h6 : vN V ≤ 6) (hp : pOk V pl) (p : Nat) : mAt pl p (vN V) = sAt pl p (vN V) := by
  cases h : sAt pl p (vN V) with
  | some i => exact (mAt_iff h6 hp p i _ (Nat.le_refl _)).mpr ((sAt_iff h6 hp p i _ (Nat.le_refl _)).mp h)
  | none =>
    cases h2 : mAt pl p (vN V) with
    | none => rfl
    | some i => rw [(sAt_iff h6 hp p i _ (Nat.le_refl _)).mpr ((mAt_iff h6 hp p i _ (Nat.le_refl _)).mp h2)] at h; cases h
theorem sn_place_some {q : Option Nat} {p : Nat} (hp : p < 2 ^ 31) (hq : ∀ x, q = some x → x < 2 ^ 31) : sn_place q = nI p ↔ q = some p := by
  constructor
  · intro h
    exact sn_place_inj hq (fun w hw => by cases hw; exact hp) (r := some p) h
  · intro h; rw [h]; rfl
theorem m_whoAtL (d : Nat) (n : Nat) {V : sVal} {W : sWall} {μ : am_M2} (ν : am_N2) (hV : mVal μ V) (hO : vOk V) (b : Nat) (hb : b + 13 ≤ 836) (hW : mWall μ b W) (hI : sI (vN V) (vP V) W.1 W.2.1) (p : Nat) (hp : p < 2 ^ 31) : ∀ (m j : Nat) , j + m = vN V → am_w (d + 1) (Option.some FieldType.int) am_g225 5 [some (.ref 133), some (.int (nI b)), some (.int (nI p)), some (.int (sn_place (mAt W.2.1 p j))), some (.int (nI j))] [] (am_hp n μ ν) (fun y => y = (some (.int (sn_place (mAt W.2.1 p (vN V)))), am_hp n μ ν)) := by
  intro m
  induction m with
  | zero =>
    intro j  hj
    have h6 := hO.1.1
    have hP8 := hO.1.2.1
    have h8 := sI_8 hO hI
    have hpk := sI_p hI
    refine am_q_iload rfl rfl ?_
    refine am_q_aload_n rfl rfl ?_
    refine am_q_call rfl rfl (m_souls _ _ _ hV) rfl ?_
    refine am_q_igeN rfl (by omega) (by omega) (fun c_11 => ?_) (fun c_11 => absurd c_11 (by omega))
    refine am_q_iload_n rfl rfl ?_
    refine am_q_ireturn rfl rfl rfl ?_
    rw [show j = vN V by omega]
  | succ m ih =>
    intro j  hj
    have h6 := hO.1.1
    have hP8 := hO.1.2.1
    have h8 := sI_8 hO hI
    have hpk := sI_p hI
    have e := ih (j + 1) (by omega)
    have k1 := hI j (by omega)
    have e1 : mAt W.2.1 p (j + 1) = if W.2.1 j = some p then some j else mAt W.2.1 p j := rfl
    rw [e1] at e
    have h8j := h8 j (by omega)
    refine am_q_iload rfl rfl ?_
    refine am_q_aload_n rfl rfl ?_
    refine am_q_call rfl rfl (m_souls _ _ _ hV) rfl ?_
    refine am_q_igeN rfl (by omega) (by omega) (fun c_11 => absurd c_11 (by omega)) (fun c_11 => ?_)
    refine am_q_aload_n rfl rfl ?_
    refine am_q_iload_n rfl rfl ?_
    refine am_q_iload rfl rfl ?_
    refine am_q_call rfl rfl (m_isNow _ n ν hV hO b hb hW hI _ (by omega)) rfl ?_
    refine am_q_iconst (v := nI 2) rfl rfl ?_
    refine am_q_ineN rfl (by have := k1.1; omega) (by omega) (fun c_22 => ?_) (fun c_22 => ?_)
    · rw [if_neg (fun z => c_22 (k1.2.1.mp (by rw [z]; rfl)))] at e
      refine am_q_iload_n rfl rfl ?_
      refine am_q_istore_n [some _, some _, some _, some _, some _] rfl (Nat.le_of_ble_eq_true rfl) rfl ?_
      refine am_q_iinc [some _, some _, some _, some _, some _] rfl (c := nI 1) rfl rfl (Nat.le_of_ble_eq_true rfl) (nI_add _ _) rfl ?_
      refine am_q_goto rfl ?_
      exact e
    · refine am_q_aload_n rfl rfl ?_
      refine am_q_gr rfl rfl rfl ?_
      refine am_q_iload_n rfl rfl ?_
      refine am_q_bipush (v := nI 7) rfl rfl ?_
      refine am_q_iadd rfl (nI_add _ _) ?_
      refine am_q_iload rfl rfl ?_
      refine am_q_iadd rfl (nI_add _ _) ?_
      refine am_q_iald rfl rfl (by first | exact am_ix_nI (by omega) (by omega) | rfl) (hW.2 j (by omega)).2 ?_
      refine am_q_iload_n rfl rfl ?_
      refine am_q_icmp_ne rfl (fun c_38 => ?_) (fun c_38 => ?_)
      · rw [if_neg (fun z => c_38 (by rw [z]; rfl))] at e
        refine am_q_iload_n rfl rfl ?_
        refine am_q_istore_n [some _, some _, some _, some _, some _] rfl (Nat.le_of_ble_eq_true rfl) rfl ?_
        refine am_q_iinc [some _, some _, some _, some _, some _] rfl (c := nI 1) rfl rfl (Nat.le_of_ble_eq_true rfl) (nI_add _ _) rfl ?_
        refine am_q_goto rfl ?_
        exact e
      · rw [if_pos ((sn_place_some hp (fun x hx => by have := h8j x hx; omega)).mp c_38)] at e
        refine am_q_iload rfl rfl ?_
        refine am_q_goto rfl ?_
        refine am_q_istore_n [some _, some _, some _, some _, some _] rfl (Nat.le_of_ble_eq_true rfl) rfl ?_
        refine am_q_iinc [some _, some _, some _, some _, some _] rfl (c := nI 1) rfl rfl (Nat.le_of_ble_eq_true rfl) (nI_add _ _) rfl ?_
        refine am_q_goto rfl ?_
        exact e

/-- StoneSecretsModel.whoAt(II)I -/
theorem m_whoAt (d : Nat) (n : Nat) {V : sVal} {W : sWall} {μ : am_M2} (ν : am_N2) (hV : mVal μ V) (hO : vOk V) (b : Nat) (hb : b + 13 ≤ 836) (hW : mWall μ b W) (hI : sI (vN V) (vP V) W.1 W.2.1) (p : Nat) (hp : p < 2 ^ 31) : am_run (d + 2) 225 [.ref 133, .int (nI b), .int (nI p)] (am_hp n μ ν) = some (some (.int (sn_place (sAt W.2.1 p (vN V)))), am_hp n μ ν) := by
  have h6 := hO.1.1
  have hP8 := hO.1.2.1
  have h8 := sI_8 hO hI
  have hpk := sI_p hI
  refine am_r225 (d := d + 1) (Nat.le_of_ble_eq_true rfl) [some (.ref 133), some (.int (nI b)), some (.int (nI p)), none, none] rfl ?_
  refine am_q_iconst (v := -1) rfl rfl ?_
  refine am_q_istore_n [some _, some _, some _, some _, none] rfl (Nat.le_of_ble_eq_true rfl) rfl ?_
  refine am_q_iconst (v := nI 0) rfl rfl ?_
  refine am_q_istore [some _, some _, some _, some _, some _] rfl (Nat.le_of_ble_eq_true rfl) rfl ?_
  rw [← mAt_eq h6 hpk p]
  exact m_whoAtL d n ν hV hO b hb hW hI p hp (vN V) 0 (by omega)

def bo (x : Option Nat) : Nat := match x with
  | none => 0
  | some i => 2 ^ i
def mL (pl : Nat → Option Nat) (p N : Nat) : Option Nat := if 0 < p then sAt pl (p - 1) N else none
def mBe (pl : Nat → Option Nat) (p N : Nat) : Nat := bo (mL pl p N) ||| bo (sAt pl (p + 1) N)
theorem bo_tb (x : Option Nat) (i : Nat) : (bo x).testBit i = decide (x = some i) := by
  cases x with
  | none => simp [bo]
  | some k =>
    show (2 ^ k).testBit i = _
    rw [Nat.testBit_two_pow]
    by_cases z : k = i
    · simp [z]
    · simp [z]
theorem sAt_lt {pl : Nat → Option Nat} {p N i : Nat} (h : sAt pl p N = some i) : i < N := by
  induction N with
  | zero => cases h
  | succ N ih =>
    unfold sAt at h
    split at h
    · rename_i s hs; cases h; have := ih hs; omega
    · split at h
      · cases h; omega
      · cases h
theorem mBe_adj {V : sVal} {pl : Nat → Option Nat} (h6 : vN V ≤ 6) (hp : pOk V pl) (p : Nat) : mBe pl p (vN V) = sBits (sAdj pl p) (vN V) := by
  apply Nat.eq_of_testBit_eq
  intro i
  rw [mBe, Nat.testBit_or, bo_tb, bo_tb, sBits_tb]
  have h1 := sAt_iff h6 hp (p + 1) i (vN V) (Nat.le_refl _)
  have h2 := sAt_iff h6 hp (p - 1) i (vN V) (Nat.le_refl _)
  have hL : (mL pl p (vN V) = some i) ↔ (i < vN V ∧ 0 < p ∧ pl i = some (p - 1)) := by
    unfold mL
    by_cases z : 0 < p
    · rw [if_pos z, h2]; exact ⟨fun h => ⟨h.1, z, h.2⟩, fun h => ⟨h.1, h.2.2⟩⟩
    · rw [if_neg z]; exact ⟨fun h => (by cases h), fun h => absurd h.2.1 z⟩
  unfold sAdj
  by_cases hi : i < vN V
  · cases hq : pl i with
    | none =>
      rw [hq] at h1 hL
      simp only [hi, decide_true, Bool.true_and]
      rw [decide_eq_false (fun h => by have := (hL.mp h).2.2; cases this), decide_eq_false (fun h => by have := (h1.mp h).2; cases this)]; rfl
    | some q =>
      rw [hq] at h1 hL
      simp only [hi, decide_true, Bool.true_and]
      have e1 : decide (sAt pl (p + 1) (vN V) = some i) = decide (q = p + 1) := by
        rw [decide_eq_decide]; rw [h1]; exact ⟨fun h => by have := h.2; cases this; rfl, fun h => ⟨hi, by rw [h]⟩⟩
      have e2 : decide (mL pl p (vN V) = some i) = decide (q + 1 = p) := by
        rw [decide_eq_decide]; rw [hL]; exact ⟨fun h => by have := h.2.2; cases this; omega, fun h => ⟨hi, by omega, by congr 1; omega⟩⟩
      rw [e1, e2, Bool.or_comm]
  · rw [decide_eq_false (fun h => hi (hL.mp h).1), decide_eq_false (fun h => hi (h1.mp h).1)]; simp [hi]
theorem bo_bc : ∀ i, i < 6 → ∀ j, j < 6 → sn_bc (2 ^ i) = 1 ∧ sn_bc (2 ^ i ||| 0) = 1 ∧ sn_bc (0 ||| 2 ^ j) = 1 ∧ (i ≠ j → sn_bc (2 ^ i ||| 2 ^ j) = 2) := by decide +kernel
theorem sAt_some {V : sVal} {pl : Nat → Option Nat} (h6 : vN V ≤ 6) (hp : pOk V pl) (p : Nat) : (sAt pl p (vN V)).isSome = (sTk pl).testBit p := by
  cases hq : sAt pl p (vN V) with
  | some i =>
    have := (sAt_iff h6 hp p i _ (Nat.le_refl _)).mp hq
    exact ((sTk_tb pl p).mpr ⟨i, by omega, this.2⟩).symm
  | none =>
    cases ht : (sTk pl).testBit p with
    | false => rfl
    | true =>
      obtain ⟨i, hi, he⟩ := (sTk_tb pl p).mp ht
      have hiN : i < vN V := by
        by_cases z : i < vN V
        · exact z
        · rw [(hp i hi).2.1 (by omega)] at he; cases he
      rw [(sAt_iff h6 hp p i _ (Nat.le_refl _)).mpr ⟨hiN, he⟩] at hq; cases hq
theorem mBe_bc {V : sVal} {pl : Nat → Option Nat} (h6 : vN V ≤ 6) (hp : pOk V pl) (p : Nat) : sn_bc (mBe pl p (vN V)) = sNb (sTk pl) p := by
  unfold sNb
  have h1 := sAt_some h6 hp (p + 1)
  have hL : (mL pl p (vN V)).isSome = decide (0 < p ∧ (sTk pl).testBit (p - 1) = true) := by
    unfold mL
    by_cases z : 0 < p
    · rw [if_pos z, sAt_some h6 hp (p - 1)]; simp [z]
    · rw [if_neg z]; simp [z]
  have hl : ∀ i, mL pl p (vN V) = some i → i < 6 ∧ pl i = some (p - 1) ∧ 0 < p := fun i h => by
    unfold mL at h
    split at h
    · have := (sAt_iff h6 hp (p - 1) i _ (Nat.le_refl _)).mp h; exact ⟨by omega, this.2, by assumption⟩
    · cases h
  have hr : ∀ i, sAt pl (p + 1) (vN V) = some i → i < 6 ∧ pl i = some (p + 1) := fun i h => by
    have := (sAt_iff h6 hp (p + 1) i _ (Nat.le_refl _)).mp h; exact ⟨by omega, this.2⟩
  rw [← h1]
  have hLd : (0 < p ∧ (sTk pl).testBit (p - 1) = true) ↔ (mL pl p (vN V)).isSome = true := by rw [hL]; simp
  unfold mBe
  cases ha : mL pl p (vN V) with
  | none =>
    rw [ha] at hLd
    have hn : ¬ (0 < p ∧ (sTk pl).testBit (p - 1) = true) := fun z => by have := hLd.mp z; cases this
    rw [if_neg hn]
    cases hc : sAt pl (p + 1) (vN V) with
    | none => rfl
    | some j => exact (bo_bc 0 (by decide) j (hr j hc).1).2.2.1
  | some i =>
    rw [ha] at hLd
    have hy : 0 < p ∧ (sTk pl).testBit (p - 1) = true := hLd.mpr rfl
    rw [if_pos hy]
    cases hc : sAt pl (p + 1) (vN V) with
    | none => exact (bo_bc i (hl i ha).1 0 (by decide)).2.1
    | some j =>
      have hne : i ≠ j := fun e => by
        have q1 := (hl i ha).2.1
        have q2 := (hr j hc).2
        rw [e, q2] at q1; have q3 := Option.some.inj q1; have := (hl i ha).2.2; omega
      exact (bo_bc i (hl i ha).1 j (hr j hc).1).2.2.2 hne
theorem mBe_64 {V : sVal} {pl : Nat → Option Nat} (h6 : vN V ≤ 6) (hp : pOk V pl) (p : Nat) : mBe pl p (vN V) < 64 := by rw [mBe_adj h6 hp]; exact sn_64 h6
theorem sn_place_ge {q : Option Nat} (hq : ∀ x, q = some x → x < 2 ^ 31) (h : 0 ≤ sn_place q) : ∃ i, q = some i := by
  cases q with
  | none => exact absurd h (by decide)
  | some i => exact ⟨i, rfl⟩
theorem sn_place_nge {q : Option Nat} (hq : ∀ x, q = some x → x < 2 ^ 31) (h : ¬ 0 ≤ sn_place q) : q = none := by
  cases q with
  | none => rfl
  | some i => exact absurd (nI_pos' (hq i rfl)) h
theorem m_besS (d n p b : Nat) (x y : Option Nat) (hx : ∀ i, x = some i → i < 6) (hy : ∀ i, y = some i → i < 6) (h : am_H) : am_w (d + 0) (Option.some FieldType.int) am_g233 27 [some (.ref 133), some (.int (nI b)), some (.int (nI p)), some (.int (sn_place x)), some (.int (sn_place y))] [] (h) (fun r => r = (some (.int (nI (bo x ||| bo y))), h)) := by
  refine am_q_iload_n rfl rfl ?_
  refine am_q_if_ge rfl (fun c_28 => ?_) (fun c_28 => ?_)
  · obtain ⟨i, rfl⟩ := sn_place_ge (fun z hz => by have := hx z hz; omega) c_28
    have hi6 := hx i rfl
    refine am_q_iconst (v := nI 1) rfl rfl ?_
    refine am_q_iload_n rfl rfl ?_
    refine am_q_ishl rfl (show nI 1 <<< (sn_place (some i) &&& 31) = nI (2 ^ i) from sn_shl1 (by omega)) ?_
    refine am_q_iload rfl rfl ?_
    refine am_q_if_ge rfl (fun c_40 => ?_) (fun c_40 => ?_)
    · obtain ⟨j, rfl⟩ := sn_place_ge (fun z hz => by have := hy z hz; omega) c_40
      have hj6 := hy j rfl
      refine am_q_iconst (v := nI 1) rfl rfl ?_
      refine am_q_iload rfl rfl ?_
      refine am_q_ishl rfl (show nI 1 <<< (sn_place (some j) &&& 31) = nI (2 ^ j) from sn_shl1 (by omega)) ?_
      refine am_q_ior rfl (sn_or _ _) ?_
      refine am_q_ireturn rfl rfl rfl ?_
      rfl
    · have hyn := sn_place_nge (fun z hz => by have := hy z hz; omega) c_40
      subst hyn
      refine am_q_iconst (v := nI 0) rfl rfl ?_
      refine am_q_goto rfl ?_
      refine am_q_ior rfl (sn_or _ _) ?_
      refine am_q_ireturn rfl rfl rfl ?_
      rfl
  · have hxn := sn_place_nge (fun z hz => by have := hx z hz; omega) c_28
    subst hxn
    refine am_q_iconst (v := nI 0) rfl rfl ?_
    refine am_q_goto rfl ?_
    refine am_q_iload rfl rfl ?_
    refine am_q_if_ge rfl (fun c_40 => ?_) (fun c_40 => ?_)
    · obtain ⟨j, rfl⟩ := sn_place_ge (fun z hz => by have := hy z hz; omega) c_40
      have hj6 := hy j rfl
      refine am_q_iconst (v := nI 1) rfl rfl ?_
      refine am_q_iload rfl rfl ?_
      refine am_q_ishl rfl (show nI 1 <<< (sn_place (some j) &&& 31) = nI (2 ^ j) from sn_shl1 (by omega)) ?_
      refine am_q_ior rfl (sn_or _ _) ?_
      refine am_q_ireturn rfl rfl rfl ?_
      rfl
    · have hyn := sn_place_nge (fun z hz => by have := hy z hz; omega) c_40
      subst hyn
      refine am_q_iconst (v := nI 0) rfl rfl ?_
      refine am_q_goto rfl ?_
      refine am_q_ior rfl (sn_or _ _) ?_
      refine am_q_ireturn rfl rfl rfl ?_
      rfl

theorem m_bes0 (d : Nat) (n : Nat) {V : sVal} {W : sWall} {μ : am_M2} (ν : am_N2) (hV : mVal μ V) (hO : vOk V) (b : Nat) (hb : b + 13 ≤ 836) (hW : mWall μ b W) (hI : sI (vN V) (vP V) W.1 W.2.1) (p : Nat) (hp : p < 2 ^ 20) (hz : p = 0) : am_run (d + 3) 233 [.ref 133, .int (nI b), .int (nI p)] (am_hp n μ ν) = some (some (.int (nI (mBe W.2.1 p (vN V)))), am_hp n μ ν) := by
  have h6 := hO.1.1
  have hP8 := hO.1.2.1
  refine am_r233 (d := d + 2) (Nat.le_of_ble_eq_true rfl) [some (.ref 133), some (.int (nI b)), some (.int (nI p)), none, none] rfl ?_
  refine am_q_iload_n rfl rfl ?_
  refine am_q_zleN rfl (by omega) (fun c_1 => ?_) (fun c_1 => absurd c_1 (by omega))
  refine am_q_iconst (v := -1) rfl rfl ?_
  refine am_q_istore_n [some _, some _, some _, some _, none] rfl (Nat.le_of_ble_eq_true rfl) rfl ?_
  refine am_q_aload_n rfl rfl ?_
  refine am_q_iload_n rfl rfl ?_
  refine am_q_iload_n rfl rfl ?_
  refine am_q_iconst (v := nI 1) rfl rfl ?_
  refine am_q_iadd rfl (nI_add _ _) ?_
  refine am_q_call rfl rfl (m_whoAt _ n ν hV hO b hb hW hI (p + 1) (by omega)) rfl ?_
  refine am_q_istore [some _, some _, some _, some _, some _] rfl (Nat.le_of_ble_eq_true rfl) rfl ?_
  have e := m_besS (d + 2) n p b (mL W.2.1 p (vN V)) (sAt W.2.1 (p + 1) (vN V)) (fun i h => by unfold mL at h; rw [if_neg (by omega)] at h; cases h) (fun i h => by have := sAt_lt h; omega) (am_hp n μ ν)
  have hm : mL W.2.1 p (vN V) = none := if_neg (by omega)
  unfold mBe
  rw [hm] at e ⊢
  exact e

theorem m_bes1 (d : Nat) (n : Nat) {V : sVal} {W : sWall} {μ : am_M2} (ν : am_N2) (hV : mVal μ V) (hO : vOk V) (b : Nat) (hb : b + 13 ≤ 836) (hW : mWall μ b W) (hI : sI (vN V) (vP V) W.1 W.2.1) (p : Nat) (hp : p < 2 ^ 20) (hz : 0 < p) : am_run (d + 3) 233 [.ref 133, .int (nI b), .int (nI p)] (am_hp n μ ν) = some (some (.int (nI (mBe W.2.1 p (vN V)))), am_hp n μ ν) := by
  have h6 := hO.1.1
  have hP8 := hO.1.2.1
  refine am_r233 (d := d + 2) (Nat.le_of_ble_eq_true rfl) [some (.ref 133), some (.int (nI b)), some (.int (nI p)), none, none] rfl ?_
  refine am_q_iload_n rfl rfl ?_
  refine am_q_zleN rfl (by omega) (fun c_1 => absurd c_1 (by omega)) (fun c_1 => ?_)
  refine am_q_aload_n rfl rfl ?_
  refine am_q_iload_n rfl rfl ?_
  refine am_q_iload_n rfl rfl ?_
  refine am_q_iconst (v := nI 1) rfl rfl ?_
  refine am_q_isub rfl (show nI p - nI 1 = nI (p - 1) from pk_sub (by omega)) ?_
  refine am_q_call rfl rfl (m_whoAt _ n ν hV hO b hb hW hI (p - 1) (by omega)) rfl ?_
  refine am_q_goto rfl ?_
  refine am_q_istore_n [some _, some _, some _, some _, none] rfl (Nat.le_of_ble_eq_true rfl) rfl ?_
  refine am_q_aload_n rfl rfl ?_
  refine am_q_iload_n rfl rfl ?_
  refine am_q_iload_n rfl rfl ?_
  refine am_q_iconst (v := nI 1) rfl rfl ?_
  refine am_q_iadd rfl (nI_add _ _) ?_
  refine am_q_call rfl rfl (m_whoAt _ n ν hV hO b hb hW hI (p + 1) (by omega)) rfl ?_
  refine am_q_istore [some _, some _, some _, some _, some _] rfl (Nat.le_of_ble_eq_true rfl) rfl ?_
  have e := m_besS (d + 2) n p b (mL W.2.1 p (vN V)) (sAt W.2.1 (p + 1) (vN V)) (fun i h => by unfold mL at h; rw [if_pos hz] at h; have := sAt_lt h; omega) (fun i h => by have := sAt_lt h; omega) (am_hp n μ ν)
  have hm : mL W.2.1 p (vN V) = sAt W.2.1 (p - 1) (vN V) := if_pos hz
  unfold mBe
  rw [hm] at e ⊢
  exact e

theorem m_besideOf (d : Nat) (n : Nat) {V : sVal} {W : sWall} {μ : am_M2} (ν : am_N2) (hV : mVal μ V) (hO : vOk V) (b : Nat) (hb : b + 13 ≤ 836) (hW : mWall μ b W) (hI : sI (vN V) (vP V) W.1 W.2.1) (p : Nat) (hp : p < 2 ^ 20) : am_run (d + 3) 233 [.ref 133, .int (nI b), .int (nI p)] (am_hp n μ ν) = some (some (.int (nI (mBe W.2.1 p (vN V)))), am_hp n μ ν) := by
  by_cases hz : 0 < p
  · exact m_bes1 d n ν hV hO b hb hW hI p hp hz
  · exact m_bes0 d n ν hV hO b hb hW hI p hp (by omega)