/-! ===== the model ===== -/
def mEnc (x : Int) : Nat := if 0 ≤ x then 1 + 16 * x.toNat else if x = -1 then 2 else if x = -2 then 18 else if x = -3 then 34 else if x = -4 then 50 else if x = -5 then 3 else if x = -6 then 9 else if x = -7 then 10 else if x = -8 then 7 else if x = -9 then 8 else if x = -10 then 4 else if x = -11 then 5 else 6
def mLaw (μ : am_M2) (p : List Int) : Prop := (μ 139 4 = -1 ∧ p = [-1, -2, -8]) ∨ (∃ i, i + p.length < 1100 ∧ μ 139 4 = nI i ∧ (∀ j (h : j < p.length), μ 140 (i + j) = nI (mEnc p[j])) ∧ μ 140 (i + p.length) = nI 0)
def mF (V : sVal) : Nat := if 0 < vF V then vF V else 1
def mVal (μ : am_M2) (V : sVal) : Prop := μ 139 0 = nI (vP V) ∧ μ 139 1 = nI (vN V) ∧ μ 139 2 = nI (vQ V) ∧ μ 139 3 = nI (mF V) ∧ (∀ s, s < vN V → μ 139 (5 + 3 * s) = nI (vK V s) ∧ μ 139 (5 + 3 * s + 1) = nI (vS V s) ∧ μ 139 (5 + 3 * s + 2) = nI (vD V s) ∧ μ 139 (23 + s) = nI (vH V s)) ∧ (∀ j, j < mF V → μ 139 (29 + j) = nI (if 0 < vF V then vR V j else 0)) ∧ mLaw μ (vL V)
def mWall (μ : am_M2) (b : Nat) (W : sWall) : Prop := μ 145 b = nI W.2.2 ∧ ∀ s, s < 6 → μ 145 (b + 1 + s) = nI (W.1 s) ∧ μ 145 (b + 7 + s) = sn_place (W.2.1 s)
theorem sAt_iff {V : sVal} {pl : Nat → Option Nat} (h6 : vN V ≤ 6) (hp : pOk V pl) (p i : Nat) : ∀ n, n ≤ vN V → (sAt pl p n = some i ↔ i < n ∧ pl i = some p)
  | 0, _ => ⟨fun h => (by cases h), fun h => by omega⟩
  | n + 1, hn => by
    have ih := sAt_iff h6 hp p i n (by omega)
    cases hq : sAt pl p n with
    | some s =>
      rw [sAt_mono pl p hq (by omega)]
      rw [hq] at ih
      constructor
      · intro h; have := ih.mp h; exact ⟨by omega, this.2⟩
      · intro h
        have hs := (sAt_iff h6 hp p s n (by omega)).mp hq
        by_cases z : i = s
        · rw [z]
        · exact absurd (hs.2.trans h.2.symm) (((hp s (by omega)).2.2 i (by omega) (fun e => z e.symm)) (by rw [hs.2]; exact fun e => by cases e))
    | none =>
      by_cases hc : pl n = some p
      · rw [sAt_s hq hc]
        constructor
        · intro h; cases h; exact ⟨by omega, hc⟩
        · intro h
          by_cases z : i = n
          · rw [z]
          · exact absurd (h.2.trans hc.symm) (((hp i (by omega)).2.2 n (by omega) z) (by rw [h.2]; exact fun e => by cases e))
      · rw [sAt_n hq hc]
        constructor
        · intro h; cases h
        · intro h
          by_cases z : i = n
          · rw [z] at h; exact absurd h.2 hc
          · have := ih.mpr ⟨by omega, h.2⟩; rw [hq] at this; cases this
/-- StoneSecretsModel.souls()I -/
theorem m_souls (d : Nat) (n : Nat) {V : sVal} {μ : am_M2} (ν : am_N2) (hV : mVal μ V) : am_run (d + 1) 215 [.ref 133] (am_hp n μ ν) = some (some (.int (nI (vN V))), am_hp n μ ν) := by
  refine am_r215 (d := d + 0) (Nat.le_of_ble_eq_true rfl) [some (.ref 133)] rfl ?_
  refine am_q_aload_n rfl rfl ?_
  refine am_q_gr rfl rfl rfl ?_
  refine am_q_iconst (v := nI 1) rfl rfl ?_
  refine am_q_iald rfl rfl (by first | exact am_ix_nI (by omega) (by omega) | rfl) hV.2.1 ?_
  refine am_q_ireturn rfl rfl rfl ?_
  rfl

/-- StoneSecretsModel.places()I -/
theorem m_places (d : Nat) (n : Nat) {V : sVal} {μ : am_M2} (ν : am_N2) (hV : mVal μ V) : am_run (d + 1) 216 [.ref 133] (am_hp n μ ν) = some (some (.int (nI (vP V))), am_hp n μ ν) := by
  refine am_r216 (d := d + 0) (Nat.le_of_ble_eq_true rfl) [some (.ref 133)] rfl ?_
  refine am_q_aload_n rfl rfl ?_
  refine am_q_gr rfl rfl rfl ?_
  refine am_q_iconst (v := nI 0) rfl rfl ?_
  refine am_q_iald rfl rfl (by first | exact am_ix_nI (by omega) (by omega) | rfl) hV.1 ?_
  refine am_q_ireturn rfl rfl rfl ?_
  rfl

theorem m_soulK (d : Nat) (n : Nat) {V : sVal} {μ : am_M2} (ν : am_N2) (hV : mVal μ V) (hO : vOk V) (s : Nat) (hs : s < vN V) : am_run (d + 1) 220 [.ref 133, .int (nI s), .int (nI 0)] (am_hp n μ ν) = some (some (.int (nI (vK V s))), am_hp n μ ν) := by
  have h6 := hO.1.1
  have hP8 := hO.1.2.1
  refine am_r220 (d := d + 0) (Nat.le_of_ble_eq_true rfl) [some (.ref 133), some (.int (nI s)), some (.int (nI 0))] rfl ?_
  refine am_q_aload_n rfl rfl ?_
  refine am_q_gr rfl rfl rfl ?_
  refine am_q_iconst (v := nI 5) rfl rfl ?_
  refine am_q_iconst (v := nI 3) rfl rfl ?_
  refine am_q_iload_n rfl rfl ?_
  refine am_q_imul rfl (pk_mul _ _) ?_
  refine am_q_iadd rfl (nI_add _ _) ?_
  refine am_q_iload_n rfl rfl ?_
  refine am_q_iadd rfl (nI_add _ _) ?_
  refine am_q_iald rfl rfl (am_ix_nI (show 5 + 3 * s + 0 < 100 by omega) (by decide)) (hV.2.2.2.2.1 s hs).1 ?_
  refine am_q_ireturn rfl rfl rfl ?_
  rfl

theorem m_soulS (d : Nat) (n : Nat) {V : sVal} {μ : am_M2} (ν : am_N2) (hV : mVal μ V) (hO : vOk V) (s : Nat) (hs : s < vN V) : am_run (d + 1) 220 [.ref 133, .int (nI s), .int (nI 1)] (am_hp n μ ν) = some (some (.int (nI (vS V s))), am_hp n μ ν) := by
  have h6 := hO.1.1
  have hP8 := hO.1.2.1
  refine am_r220 (d := d + 0) (Nat.le_of_ble_eq_true rfl) [some (.ref 133), some (.int (nI s)), some (.int (nI 1))] rfl ?_
  refine am_q_aload_n rfl rfl ?_
  refine am_q_gr rfl rfl rfl ?_
  refine am_q_iconst (v := nI 5) rfl rfl ?_
  refine am_q_iconst (v := nI 3) rfl rfl ?_
  refine am_q_iload_n rfl rfl ?_
  refine am_q_imul rfl (pk_mul _ _) ?_
  refine am_q_iadd rfl (nI_add _ _) ?_
  refine am_q_iload_n rfl rfl ?_
  refine am_q_iadd rfl (nI_add _ _) ?_
  refine am_q_iald rfl rfl (am_ix_nI (show 5 + 3 * s + 1 < 100 by omega) (by decide)) (hV.2.2.2.2.1 s hs).2.1 ?_
  refine am_q_ireturn rfl rfl rfl ?_
  rfl

theorem m_soulD (d : Nat) (n : Nat) {V : sVal} {μ : am_M2} (ν : am_N2) (hV : mVal μ V) (hO : vOk V) (s : Nat) (hs : s < vN V) : am_run (d + 1) 220 [.ref 133, .int (nI s), .int (nI 2)] (am_hp n μ ν) = some (some (.int (nI (vD V s))), am_hp n μ ν) := by
  have h6 := hO.1.1
  have hP8 := hO.1.2.1
  refine am_r220 (d := d + 0) (Nat.le_of_ble_eq_true rfl) [some (.ref 133), some (.int (nI s)), some (.int (nI 2))] rfl ?_
  refine am_q_aload_n rfl rfl ?_
  refine am_q_gr rfl rfl rfl ?_
  refine am_q_iconst (v := nI 5) rfl rfl ?_
  refine am_q_iconst (v := nI 3) rfl rfl ?_
  refine am_q_iload_n rfl rfl ?_
  refine am_q_imul rfl (pk_mul _ _) ?_
  refine am_q_iadd rfl (nI_add _ _) ?_
  refine am_q_iload_n rfl rfl ?_
  refine am_q_iadd rfl (nI_add _ _) ?_
  refine am_q_iald rfl rfl (am_ix_nI (show 5 + 3 * s + 2 < 100 by omega) (by decide)) (hV.2.2.2.2.1 s hs).2.2.1 ?_
  refine am_q_ireturn rfl rfl rfl ?_
  rfl

/-- StoneSecretsModel.isSoul(I)Z -/
theorem m_isSoul (d : Nat) (n : Nat) (s : Int32) {V : sVal} {μ : am_M2} (ν : am_N2) (hV : mVal μ V) (hO : vOk V) : am_run (d + 2) 218 [.ref 133, .int s] (am_hp n μ ν) = some (some (.int (sB (am_ix s (vN V)).isSome)), am_hp n μ ν) := by
  have h6 := hO.1.1
  have hP8 := hO.1.2.1
  refine am_r218 (d := d + 1) (Nat.le_of_ble_eq_true rfl) [some (.ref 133), some (.int s)] rfl ?_
  refine am_q_iload_n rfl rfl ?_
  refine am_q_if_lt rfl (fun c_1 => ?_) (fun c_1 => ?_)
  · refine am_q_iconst (v := nI 0) rfl rfl ?_
    refine am_q_ireturn rfl rfl rfl ?_
    rw [← sn_has (show vN V < 2 ^ 31 by omega), if_neg (fun z => z.1 c_1)]
  · refine am_q_iload_n rfl rfl ?_
    refine am_q_aload_n rfl rfl ?_
    refine am_q_call rfl rfl (m_souls _ _ _ hV) rfl ?_
    refine am_q_icmp_ge rfl (fun c_9 => ?_) (fun c_9 => ?_)
    · refine am_q_iconst (v := nI 0) rfl rfl ?_
      refine am_q_ireturn rfl rfl rfl ?_
      rw [← sn_has (show vN V < 2 ^ 31 by omega), if_neg (fun z => z.2 c_9)]
    · refine am_q_iconst (v := nI 1) rfl rfl ?_
      refine am_q_goto rfl ?_
      refine am_q_ireturn rfl rfl rfl ?_
      rw [← sn_has (show vN V < 2 ^ 31 by omega), if_pos ⟨c_1, c_9⟩]

/-- StoneSecretsModel.isPlace(I)Z -/
theorem m_isPlace (d : Nat) (n : Nat) (s : Int32) {V : sVal} {μ : am_M2} (ν : am_N2) (hV : mVal μ V) (hO : vOk V) : am_run (d + 2) 224 [.ref 133, .int s] (am_hp n μ ν) = some (some (.int (sB (am_ix s (vP V)).isSome)), am_hp n μ ν) := by
  have h6 := hO.1.1
  have hP8 := hO.1.2.1
  refine am_r224 (d := d + 1) (Nat.le_of_ble_eq_true rfl) [some (.ref 133), some (.int s)] rfl ?_
  refine am_q_iload_n rfl rfl ?_
  refine am_q_if_lt rfl (fun c_1 => ?_) (fun c_1 => ?_)
  · refine am_q_iconst (v := nI 0) rfl rfl ?_
    refine am_q_ireturn rfl rfl rfl ?_
    rw [← sn_has (show vP V < 2 ^ 31 by omega), if_neg (fun z => z.1 c_1)]
  · refine am_q_iload_n rfl rfl ?_
    refine am_q_aload_n rfl rfl ?_
    refine am_q_call rfl rfl (m_places _ _ _ hV) rfl ?_
    refine am_q_icmp_ge rfl (fun c_9 => ?_) (fun c_9 => ?_)
    · refine am_q_iconst (v := nI 0) rfl rfl ?_
      refine am_q_ireturn rfl rfl rfl ?_
      rw [← sn_has (show vP V < 2 ^ 31 by omega), if_neg (fun z => z.2 c_9)]
    · refine am_q_iconst (v := nI 1) rfl rfl ?_
      refine am_q_goto rfl ?_
      refine am_q_ireturn rfl rfl rfl ?_
      rw [← sn_has (show vP V < 2 ^ 31 by omega), if_pos ⟨c_1, c_9⟩]

def bitsN (a : Nat) : Nat → Nat := lpF (fun k x => x + a / 2 ^ k % 2) 0
theorem bitsN_ok : ∀ a, a < 64 → bitsN a 30 = sn_bc a := by decide +kernel
theorem m_bitsL (d a : Nat) (ha : a < 64) (h : am_H) : ∀ (m j : Nat) , j + m = 30 → am_w (d + 0) (Option.some FieldType.int) am_g242 4 [some (.int (nI a)), some (.int (nI (bitsN a j))), some (.int (nI j))] [] (h) (fun y => y = (some (.int (nI (sn_bc a))), h)) := by
  intro m
  induction m with
  | zero =>
    intro j  hj
    refine am_q_iload_n rfl rfl ?_
    refine am_q_bipush (v := nI 30) rfl rfl ?_
    refine am_q_igeN rfl (by omega) (by omega) (fun c_7 => ?_) (fun c_7 => absurd c_7 (by omega))
    refine am_q_iload_n rfl rfl ?_
    refine am_q_ireturn rfl rfl rfl ?_
    rw [show j = 30 by omega, bitsN_ok a ha]
  | succ m ih =>
    intro j  hj
    have e := ih (j + 1) (by omega)
    rw [bitsN, lpF_s] at e
    refine am_q_iload_n rfl rfl ?_
    refine am_q_bipush (v := nI 30) rfl rfl ?_
    refine am_q_igeN rfl (by omega) (by omega) (fun c_7 => absurd c_7 (by omega)) (fun c_7 => ?_)
    refine am_q_iload_n rfl rfl ?_
    refine am_q_iload_n rfl rfl ?_
    refine am_q_iload_n rfl rfl ?_
    refine am_q_ishr rfl (sn_shr (by omega) (by omega)) ?_
    refine am_q_iconst (v := nI 1) rfl rfl ?_
    refine am_q_iand rfl (show nI (a / 2 ^ j) &&& nI 1 = nI (a / 2 ^ j % 2) from fa_mask _ 1) ?_
    refine am_q_iadd rfl (nI_add _ _) ?_
    refine am_q_istore_n [some _, some _, some _] rfl (Nat.le_of_ble_eq_true rfl) rfl ?_
    refine am_q_iinc [some _, some _, some _] rfl (c := nI 1) rfl rfl (Nat.le_of_ble_eq_true rfl) (nI_add _ _) rfl ?_
    refine am_q_goto rfl ?_
    exact e

/-- StoneSecretsModel.bits(I)I -/
theorem m_bits (d : Nat) (a : Nat) (ha : a < 64) (h : am_H) : am_run (d + 1) 242 [.int (nI a)] (h) = some (some (.int (nI (sn_bc a))), h) := by
  refine am_r242 (d := d + 0) (Nat.le_of_ble_eq_true rfl) [some (.int (nI a)), none, none] rfl ?_
  refine am_q_iconst (v := nI 0) rfl rfl ?_
  refine am_q_istore_n [some _, some _, none] rfl (Nat.le_of_ble_eq_true rfl) rfl ?_
  refine am_q_iconst (v := nI 0) rfl rfl ?_
  refine am_q_istore_n [some _, some _, some _] rfl (Nat.le_of_ble_eq_true rfl) rfl ?_
  exact m_bitsL d a ha h 30 0 (by omega)

theorem m_weight0 (d : Nat) (n : Nat) {V : sVal} {μ : am_M2} (ν : am_N2) (hV : mVal μ V) (hO : vOk V) (s : Nat) (hs : s < vN V) (hk : vK V s = 0) : am_run (d + 2) 221 [.ref 133, .int (nI s)] (am_hp n μ ν) = some (some (.int (nI (vW V s))), am_hp n μ ν) := by
  have h6 := hO.1.1
  have hP8 := hO.1.2.1
  refine am_r221 (d := d + 1) (Nat.le_of_ble_eq_true rfl) [some (.ref 133), some (.int (nI s)), none] rfl ?_
  refine am_q_aload_n rfl rfl ?_
  refine am_q_iload_n rfl rfl ?_
  refine am_q_iconst (v := nI 1) rfl rfl ?_
  refine am_q_call rfl rfl (m_soulS _ n ν hV hO s hs) rfl ?_
  refine am_q_istore_n [some _, some _, some _] rfl (Nat.le_of_ble_eq_true rfl) rfl ?_
  refine am_q_aload_n rfl rfl ?_
  refine am_q_iload_n rfl rfl ?_
  refine am_q_iconst (v := nI 0) rfl rfl ?_
  refine am_q_call rfl rfl (m_soulK _ n ν hV hO s hs) rfl ?_
  rw [hk]
  refine am_q_tsw (t := 53) rfl (by decide) ?_
  refine am_q_iload_n rfl rfl ?_
  refine am_q_iconst (v := nI 1) rfl rfl ?_
  refine am_q_iadd rfl (nI_add _ _) ?_
  refine am_q_ireturn rfl rfl rfl ?_
  rw [vW, hk]; first | rfl | (unfold sWt; rfl)

theorem m_weight1 (d : Nat) (n : Nat) {V : sVal} {μ : am_M2} (ν : am_N2) (hV : mVal μ V) (hO : vOk V) (s : Nat) (hs : s < vN V) (hk : vK V s = 1) : am_run (d + 2) 221 [.ref 133, .int (nI s)] (am_hp n μ ν) = some (some (.int (nI (vW V s))), am_hp n μ ν) := by
  have h6 := hO.1.1
  have hP8 := hO.1.2.1
  refine am_r221 (d := d + 1) (Nat.le_of_ble_eq_true rfl) [some (.ref 133), some (.int (nI s)), none] rfl ?_
  refine am_q_aload_n rfl rfl ?_
  refine am_q_iload_n rfl rfl ?_
  refine am_q_iconst (v := nI 1) rfl rfl ?_
  refine am_q_call rfl rfl (m_soulS _ n ν hV hO s hs) rfl ?_
  refine am_q_istore_n [some _, some _, some _] rfl (Nat.le_of_ble_eq_true rfl) rfl ?_
  refine am_q_aload_n rfl rfl ?_
  refine am_q_iload_n rfl rfl ?_
  refine am_q_iconst (v := nI 0) rfl rfl ?_
  refine am_q_call rfl rfl (m_soulK _ n ν hV hO s hs) rfl ?_
  rw [hk]
  refine am_q_tsw (t := 40) rfl (by decide) ?_
  refine am_q_bipush (v := nI 9) rfl rfl ?_
  refine am_q_ireturn rfl rfl rfl ?_
  rw [vW, hk]; first | rfl | (unfold sWt; rfl)

theorem m_weight2 (d : Nat) (n : Nat) {V : sVal} {μ : am_M2} (ν : am_N2) (hV : mVal μ V) (hO : vOk V) (s : Nat) (hs : s < vN V) (hk : vK V s = 2) : am_run (d + 2) 221 [.ref 133, .int (nI s)] (am_hp n μ ν) = some (some (.int (nI (vW V s))), am_hp n μ ν) := by
  have h6 := hO.1.1
  have hP8 := hO.1.2.1
  refine am_r221 (d := d + 1) (Nat.le_of_ble_eq_true rfl) [some (.ref 133), some (.int (nI s)), none] rfl ?_
  refine am_q_aload_n rfl rfl ?_
  refine am_q_iload_n rfl rfl ?_
  refine am_q_iconst (v := nI 1) rfl rfl ?_
  refine am_q_call rfl rfl (m_soulS _ n ν hV hO s hs) rfl ?_
  refine am_q_istore_n [some _, some _, some _] rfl (Nat.le_of_ble_eq_true rfl) rfl ?_
  refine am_q_aload_n rfl rfl ?_
  refine am_q_iload_n rfl rfl ?_
  refine am_q_iconst (v := nI 0) rfl rfl ?_
  refine am_q_call rfl rfl (m_soulK _ n ν hV hO s hs) rfl ?_
  rw [hk]
  refine am_q_tsw (t := 43) rfl (by decide) ?_
  refine am_q_iconst (v := nI 2) rfl rfl ?_
  refine am_q_iload_n rfl rfl ?_
  refine am_q_imul rfl (pk_mul _ _) ?_
  refine am_q_iconst (v := nI 1) rfl rfl ?_
  refine am_q_iadd rfl (nI_add _ _) ?_
  refine am_q_ireturn rfl rfl rfl ?_
  rw [vW, hk]; first | rfl | (unfold sWt; rfl)

theorem m_weight3 (d : Nat) (n : Nat) {V : sVal} {μ : am_M2} (ν : am_N2) (hV : mVal μ V) (hO : vOk V) (s : Nat) (hs : s < vN V) (hk : vK V s = 3) : am_run (d + 2) 221 [.ref 133, .int (nI s)] (am_hp n μ ν) = some (some (.int (nI (vW V s))), am_hp n μ ν) := by
  have h6 := hO.1.1
  have hP8 := hO.1.2.1
  refine am_r221 (d := d + 1) (Nat.le_of_ble_eq_true rfl) [some (.ref 133), some (.int (nI s)), none] rfl ?_
  refine am_q_aload_n rfl rfl ?_
  refine am_q_iload_n rfl rfl ?_
  refine am_q_iconst (v := nI 1) rfl rfl ?_
  refine am_q_call rfl rfl (m_soulS _ n ν hV hO s hs) rfl ?_
  refine am_q_istore_n [some _, some _, some _] rfl (Nat.le_of_ble_eq_true rfl) rfl ?_
  refine am_q_aload_n rfl rfl ?_
  refine am_q_iload_n rfl rfl ?_
  refine am_q_iconst (v := nI 0) rfl rfl ?_
  refine am_q_call rfl rfl (m_soulK _ n ν hV hO s hs) rfl ?_
  rw [hk]
  refine am_q_tsw (t := 49) rfl (by decide) ?_
  refine am_q_iload_n rfl rfl ?_
  refine am_q_iconst (v := nI 4) rfl rfl ?_
  refine am_q_iadd rfl (nI_add _ _) ?_
  refine am_q_ireturn rfl rfl rfl ?_
  rw [vW, hk]; first | rfl | (unfold sWt; rfl)

theorem m_weightOf (d n : Nat) {V : sVal} {μ : am_M2} (ν : am_N2) (hV : mVal μ V) (hO : vOk V) (s : Nat) (hs : s < vN V) : am_run (d + 2) 221 [.ref 133, .int (nI s)] (am_hp n μ ν) = some (some (.int (nI (vW V s))), am_hp n μ ν) := by
  have h3 := (hO.2.1 s hs).1
  rcases (show vK V s = 0 ∨ vK V s = 1 ∨ vK V s = 2 ∨ vK V s = 3 by omega) with h | h | h | h
  · exact m_weight0 d n ν hV hO s hs h
  · exact m_weight1 d n ν hV hO s hs h
  · exact m_weight2 d n ν hV hO s hs h
  · exact m_weight3 d n ν hV hO s hs h
theorem m_hurtL (d : Nat) (n : Nat) {V : sVal} {μ : am_M2} (ν : am_N2) (hV : mVal μ V) (hO : vOk V) (s : Nat) (hs : s < vN V) : ∀ (m j : Nat) , j + m = vN V → am_w (d + 1) (Option.some FieldType.int) am_g234 12 [some (.ref 133), some (.int (nI s)), some (.int (nI (vH V s ||| sBits (fun o => decide (o ≠ s) && decide (vK V s = 3) && decide (vK V o = 3)) j))), some (.int (nI j))] [] (am_hp n μ ν) (fun y => y = (some (.int (nI (vFo V s))), am_hp n μ ν)) := by
  intro m
  induction m with
  | zero =>
    intro j  hj
    have h6 := hO.1.1
    have hP8 := hO.1.2.1
    refine am_q_iload_n rfl rfl ?_
    refine am_q_aload_n rfl rfl ?_
    refine am_q_call rfl rfl (m_souls _ _ _ hV) rfl ?_
    refine am_q_igeN rfl (by omega) (by omega) (fun c_17 => ?_) (fun c_17 => absurd c_17 (by omega))
    refine am_q_iload_n rfl rfl ?_
    refine am_q_ireturn rfl rfl rfl ?_
    rw [show j = vN V by omega]; rfl
  | succ m ih =>
    intro j  hj
    have h6 := hO.1.1
    have hP8 := hO.1.2.1
    have e := ih (j + 1) (by omega)
    rw [sBits_s] at e
    have k1 := (hO.2.1 s hs).1
    have k2 := (hO.2.1 j (by omega)).1
    refine am_q_iload_n rfl rfl ?_
    refine am_q_aload_n rfl rfl ?_
    refine am_q_call rfl rfl (m_souls _ _ _ hV) rfl ?_
    refine am_q_igeN rfl (by omega) (by omega) (fun c_17 => absurd c_17 (by omega)) (fun c_17 => ?_)
    refine am_q_iload_n rfl rfl ?_
    refine am_q_iload_n rfl rfl ?_
    refine am_q_iload_n rfl rfl ?_
    refine am_q_ieqN rfl (by omega) (by omega) (fun c_23 => ?_) (fun c_23 => ?_)
    · rw [if_neg (by simp [c_23])] at e
      refine am_q_iconst (v := nI 0) rfl rfl ?_
      refine am_q_ior rfl (sn_or _ _) ?_
      refine am_q_istore_n [some _, some _, some _, some _] rfl (Nat.le_of_ble_eq_true rfl) rfl ?_
      refine am_q_iinc [some _, some _, some _, some _] rfl (c := nI 1) rfl rfl (Nat.le_of_ble_eq_true rfl) (nI_add _ _) rfl ?_
      refine am_q_goto rfl ?_
      first | exact e | (rw [Nat.or_zero]; exact e)
    · refine am_q_aload_n rfl rfl ?_
      refine am_q_iload_n rfl rfl ?_
      refine am_q_iconst (v := nI 0) rfl rfl ?_
      refine am_q_call rfl rfl (m_soulK _ n ν hV hO s hs) rfl ?_
      refine am_q_iconst (v := nI 3) rfl rfl ?_
      refine am_q_ineN rfl (by omega) (by omega) (fun c_33 => ?_) (fun c_33 => ?_)
      · rw [if_neg (by simp [c_33])] at e
        refine am_q_iconst (v := nI 0) rfl rfl ?_
        refine am_q_ior rfl (sn_or _ _) ?_
        refine am_q_istore_n [some _, some _, some _, some _] rfl (Nat.le_of_ble_eq_true rfl) rfl ?_
        refine am_q_iinc [some _, some _, some _, some _] rfl (c := nI 1) rfl rfl (Nat.le_of_ble_eq_true rfl) (nI_add _ _) rfl ?_
        refine am_q_goto rfl ?_
        first | exact e | (rw [Nat.or_zero]; exact e)
      · refine am_q_aload_n rfl rfl ?_
        refine am_q_iload_n rfl rfl ?_
        refine am_q_iconst (v := nI 0) rfl rfl ?_
        refine am_q_call rfl rfl (m_soulK _ n ν hV hO j (by omega)) rfl ?_
        refine am_q_iconst (v := nI 3) rfl rfl ?_
        refine am_q_ineN rfl (by omega) (by omega) (fun c_43 => ?_) (fun c_43 => ?_)
        · rw [if_neg (by simp [c_43])] at e
          refine am_q_iconst (v := nI 0) rfl rfl ?_
          refine am_q_ior rfl (sn_or _ _) ?_
          refine am_q_istore_n [some _, some _, some _, some _] rfl (Nat.le_of_ble_eq_true rfl) rfl ?_
          refine am_q_iinc [some _, some _, some _, some _] rfl (c := nI 1) rfl rfl (Nat.le_of_ble_eq_true rfl) (nI_add _ _) rfl ?_
          refine am_q_goto rfl ?_
          first | exact e | (rw [Nat.or_zero]; exact e)
        · rw [if_pos (by simp [c_23, c_33, c_43]), ← Nat.or_assoc] at e
          refine am_q_iconst (v := nI 1) rfl rfl ?_
          refine am_q_iload_n rfl rfl ?_
          refine am_q_ishl rfl (sn_shl1 (by omega)) ?_
          refine am_q_goto rfl ?_
          refine am_q_ior rfl (sn_or _ _) ?_
          refine am_q_istore_n [some _, some _, some _, some _] rfl (Nat.le_of_ble_eq_true rfl) rfl ?_
          refine am_q_iinc [some _, some _, some _, some _] rfl (c := nI 1) rfl rfl (Nat.le_of_ble_eq_true rfl) (nI_add _ _) rfl ?_
          refine am_q_goto rfl ?_
          first | exact e | (rw [Nat.or_zero]; exact e)

/-- StoneSecretsModel.hurtBy(I)I -/
theorem m_hurtBy (d : Nat) (n : Nat) {V : sVal} {μ : am_M2} (ν : am_N2) (hV : mVal μ V) (hO : vOk V) (s : Nat) (hs : s < vN V) : am_run (d + 2) 234 [.ref 133, .int (nI s)] (am_hp n μ ν) = some (some (.int (nI (vFo V s))), am_hp n μ ν) := by
  have h6 := hO.1.1
  have hP8 := hO.1.2.1
  refine am_r234 (d := d + 1) (Nat.le_of_ble_eq_true rfl) [some (.ref 133), some (.int (nI s)), none, none] rfl ?_
  refine am_q_aload_n rfl rfl ?_
  refine am_q_gr rfl rfl rfl ?_
  refine am_q_bipush (v := nI 23) rfl rfl ?_
  refine am_q_iload_n rfl rfl ?_
  refine am_q_iadd rfl (nI_add _ _) ?_
  refine am_q_iald rfl rfl (by first | exact am_ix_nI (by omega) (by omega) | rfl) (hV.2.2.2.2.1 s hs).2.2.2 ?_
  refine am_q_istore_n [some _, some _, some _, none] rfl (Nat.le_of_ble_eq_true rfl) rfl ?_
  refine am_q_iconst (v := nI 0) rfl rfl ?_
  refine am_q_istore_n [some _, some _, some _, some _] rfl (Nat.le_of_ble_eq_true rfl) rfl ?_
  have e := m_hurtL d n ν hV hO s hs (vN V) 0 (by omega)
  rw [show vH V s ||| sBits (fun o => decide (o ≠ s) && decide (vK V s = 3) && decide (vK V o = 3)) 0 = vH V s from Nat.or_zero _] at e
  exact e
