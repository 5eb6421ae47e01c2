/-! ===== a valley: SOULS, PLACES, pairs, frosts, kinds, secrets, dues, who hurts whom as told, frost by weeks, the law ===== -/
abbrev sVal : Type := Nat × Nat × Nat × Nat × (Nat → Nat) × (Nat → Nat) × (Nat → Nat) × (Nat → Nat) × (Nat → Nat) × List Int
abbrev vN (V : sVal) : Nat := V.1
abbrev vP (V : sVal) : Nat := V.2.1
abbrev vQ (V : sVal) : Nat := V.2.2.1
abbrev vF (V : sVal) : Nat := V.2.2.2.1
abbrev vK (V : sVal) : Nat → Nat := V.2.2.2.2.1
abbrev vS (V : sVal) : Nat → Nat := V.2.2.2.2.2.1
abbrev vD (V : sVal) : Nat → Nat := V.2.2.2.2.2.2.1
abbrev vH (V : sVal) : Nat → Nat := V.2.2.2.2.2.2.2.1
abbrev vR (V : sVal) : Nat → Nat := V.2.2.2.2.2.2.2.2.1
abbrev vL (V : sVal) : List Int := V.2.2.2.2.2.2.2.2.2
def sWt (k s : Nat) : Nat := if k = 1 then 9 else if k = 2 then 2 * s + 1 else if k = 3 then s + 4 else s + 1
def vW (V : sVal) (s : Nat) : Nat := sWt (vK V s) (vS V s)
def vFo (V : sVal) (s : Nat) : Nat := vH V s ||| sBits (fun o => decide (o ≠ s) && decide (vK V s = 3) && decide (vK V o = 3)) (vN V)
def vOk (V : sVal) : Prop := (vN V ≤ 6 ∧ vP V ≤ 8 ∧ vF V ≤ 12 ∧ lwOk (vL V)) ∧ (∀ s, s < vN V → vK V s ≤ 3 ∧ vS V s ≤ 20 ∧ vD V s ≤ 60 ∧ vH V s < 2 ^ vN V) ∧ (∀ j, j < vF V → vR V j ≤ 9) ∧ ∀ s o, s < vN V → o < vN V → (vH V s).testBit o = (vH V o).testBit s ∧ (vH V s).testBit s = false
/-- as the class holds it -/
def xVal (μ : am_M2) (V : sVal) : Prop := xV μ (vN V) (vP V) ∧ μ 5 10 = nI (vQ V) ∧ μ 5 11 = nI (vF V) ∧ (∀ s, s < vN V → μ 7 s = nI (vK V s) ∧ μ 8 s = nI (vS V s) ∧ μ 9 s = nI (vD V s) ∧ μ 10 s = nI (vW V s) ∧ μ 11 s = nI (vFo V s)) ∧ (∀ j, j < vF V → μ 12 j = nI (vR V j)) ∧ (0 < vN V → xL μ (vL V))
theorem vW_le {V : sVal} (h : vOk V) {s : Nat} (hs : s < vN V) : vW V s ≤ 41 := by
  obtain ⟨h1, h2, -⟩ := h.2.1 s hs
  unfold vW sWt
  split
  · omega
  · split
    · omega
    · split <;> omega
theorem vFo_lt {V : sVal} (h : vOk V) {s : Nat} (hs : s < vN V) : vFo V s < 64 := by
  have h6 : 2 ^ vN V ≤ 2 ^ 6 := Nat.pow_le_pow_right (by decide) h.1.1
  exact Nat.or_lt_two_pow (n := 6) (Nat.lt_of_lt_of_le (h.2.1 s hs).2.2.2 h6) (Nat.lt_of_lt_of_le (sBits_lt _ _) h6)
/-- frost of a week -/
def vCold (V : sVal) (t : Nat) : Nat := if 0 < vF V then vR V (t % vF V) else 0
theorem vCold_le {V : sVal} (h : vOk V) (t : Nat) : vCold V t ≤ 9 := by
  unfold vCold
  split
  · rename_i z; exact h.2.2.1 _ (Nat.mod_lt _ z)
  · omega
def vLeak (V : sVal) (s : Nat) : Bool := decide (vK V s = 0) || decide (vK V s = 3)
theorem s_coldOf0 (d : Nat) (n t : Nat) (ht : t < 2 ^ 31) {V : sVal} {μ : am_M2} (ν : am_N2) (hV : xVal μ V) (hO : vOk V) (hz : vF V = 0) : am_run (d + 1) 84 [.ref 5, .int (nI t)] (am_hp n μ ν) = some (some (.int (nI 0)), am_hp n μ ν) := by
  refine am_r84 (d := d + 0) (Nat.le_of_ble_eq_true rfl) [some (.ref 5), some (.int (nI t))] rfl ?_
  refine am_q_aload_n rfl rfl ?_
  refine am_q_gi rfl rfl rfl hV.2.2.1 ?_
  refine am_q_if_le rfl (fun c_4 => ?_) (fun c_4 => absurd ((by rw [hz]; decide)) c_4)
  refine am_q_iconst (v := nI 0) rfl rfl ?_
  refine am_q_ireturn rfl rfl rfl ?_
  rfl

theorem s_coldOf1 (d : Nat) (n t : Nat) (ht : t < 2 ^ 31) {V : sVal} {μ : am_M2} (ν : am_N2) (hV : xVal μ V) (hO : vOk V) (hz : 0 < vF V) : am_run (d + 1) 84 [.ref 5, .int (nI t)] (am_hp n μ ν) = some (some (.int (nI (vR V (t % vF V)))), am_hp n μ ν) := by
  have hF := hO.1.2.2.1
  refine am_r84 (d := d + 0) (Nat.le_of_ble_eq_true rfl) [some (.ref 5), some (.int (nI t))] rfl ?_
  refine am_q_aload_n rfl rfl ?_
  refine am_q_gi rfl rfl rfl hV.2.2.1 ?_
  refine am_q_if_le rfl (fun c_4 => absurd c_4 (nI_nle hz (by omega))) (fun c_4 => ?_)
  refine am_q_iload_n rfl rfl ?_
  refine am_q_if_lt rfl (fun c_8 => absurd c_8 (nI_pos ht)) (fun c_8 => ?_)
  refine am_q_aload_n rfl rfl ?_
  refine am_q_gr rfl rfl rfl ?_
  refine am_q_iload_n rfl rfl ?_
  refine am_q_aload_n rfl rfl ?_
  refine am_q_gi rfl rfl rfl hV.2.2.1 ?_
  refine am_q_irem rfl (nI_ne0 hz (by omega)) (pk_rem ht hz (by omega)) ?_
  refine am_q_iald rfl rfl (am_ix_nI (Nat.lt_of_lt_of_le (Nat.mod_lt _ hz) hF) (by omega)) (hV.2.2.2.2.1 _ (Nat.mod_lt _ hz)) ?_
  refine am_q_goto rfl ?_
  refine am_q_ireturn rfl rfl rfl ?_
  rfl

theorem s_coldOf (d n t : Nat) (ht : t < 2 ^ 31) {V : sVal} {μ : am_M2} (ν : am_N2) (hV : xVal μ V) (hO : vOk V) : am_run (d + 1) 84 [.ref 5, .int (nI t)] (am_hp n μ ν) = some (some (.int (nI (vCold V t))), am_hp n μ ν) := by
  unfold vCold
  split
  · rename_i z; exact s_coldOf1 d n t ht ν hV hO z
  · rename_i z; exact s_coldOf0 d n t ht ν hV hO (by omega)
/-- StoneSecrets$Valley.canLeak(I)Z -/
theorem s_canLeak (d : Nat) {V : sVal} (n s : Nat) (hs : s < vN V) {μ : am_M2} (ν : am_N2) (hV : xVal μ V) (hO : vOk V) : am_run (d + 1) 91 [.ref 5, .int (nI s)] (am_hp n μ ν) = some (some (.int (sB (vLeak V s))), am_hp n μ ν) := by
  have h6 := hO.1.1
  have h3 := (hO.2.1 s hs).1
  refine am_r91 (d := d + 0) (Nat.le_of_ble_eq_true rfl) [some (.ref 5), some (.int (nI s))] rfl ?_
  refine am_q_aload_n rfl rfl ?_
  refine am_q_gr rfl rfl rfl ?_
  refine am_q_iload_n rfl rfl ?_
  refine am_q_iald rfl rfl (by first | exact am_ix_nI (by omega) (by omega) | rfl) (hV.2.2.2.1 s hs).1 ?_
  refine am_q_if_eq rfl (fun c_6 => ?_) (fun c_6 => ?_)
  · have c_6 : vK V s = 0 := (nI_eq (by omega) (by omega)).mp c_6
    refine am_q_iconst (v := nI 1) rfl rfl ?_
    refine am_q_goto rfl ?_
    refine am_q_ireturn rfl rfl rfl ?_
    simp [vLeak, sB, *]
  · have c_6 : ¬ vK V s = 0 := fun q => c_6 (by rw [q]; rfl)
    refine am_q_aload_n rfl rfl ?_
    refine am_q_gr rfl rfl rfl ?_
    refine am_q_iload_n rfl rfl ?_
    refine am_q_iald rfl rfl (by first | exact am_ix_nI (by omega) (by omega) | rfl) (hV.2.2.2.1 s hs).1 ?_
    refine am_q_iconst (v := nI 3) rfl rfl ?_
    refine am_q_ineN rfl (by omega) (by omega) (fun c_16 => ?_) (fun c_16 => ?_)
    · refine am_q_iconst (v := nI 0) rfl rfl ?_
      refine am_q_ireturn rfl rfl rfl ?_
      simp [vLeak, sB, *]
    · refine am_q_iconst (v := nI 1) rfl rfl ?_
      refine am_q_goto rfl ?_
      refine am_q_ireturn rfl rfl rfl ?_
      simp [vLeak, sB, *]

theorem sn_all : ∀ p, p < 9 → (nI 1 <<< (nI p &&& 31)) - nI 1 = nI (2 ^ p - 1) := by decide +kernel
/-- StoneSecrets$Valley.allPlaces()I -/
theorem s_allPlaces (d : Nat) (n : Nat) {N P : Nat} {μ : am_M2} (ν : am_N2) (hV : xV μ N P) : am_run (d + 1) 76 [.ref 5] (am_hp n μ ν) = some (some (.int (nI (2 ^ P - 1))), am_hp n μ ν) := by
  refine am_r76 (d := d + 0) (Nat.le_of_ble_eq_true rfl) [some (.ref 5)] rfl ?_
  refine am_q_iconst (v := nI 1) rfl rfl ?_
  refine am_q_aload_n rfl rfl ?_
  refine am_q_gi rfl rfl rfl hV.2.2.1 ?_
  refine am_q_ishl rfl rfl ?_
  refine am_q_iconst (v := nI 1) rfl rfl ?_
  refine am_q_isub rfl (sn_all P (by have := hV.2.2.2; omega)) ?_
  refine am_q_ireturn rfl rfl rfl ?_
  rfl
