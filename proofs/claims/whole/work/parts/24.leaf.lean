/-- StoneSecrets.has(II)Z -/
theorem s_has (d : Nat) (b k : Int32) (h : am_H) : am_run (d + 1) 43 [.int b, .int k] (h) = some (some (.int (if (b >>> (k &&& 31)) &&& nI 1 = 0 then nI 0 else nI 1)), h) := by
  refine am_r43 (d := d + 0) (Nat.le_of_ble_eq_true rfl) [some (.int b), some (.int k)] rfl ?_
  refine am_q_iload_n rfl rfl ?_
  refine am_q_iload_n rfl rfl ?_
  refine am_q_ishr rfl rfl ?_
  refine am_q_iconst (v := nI 1) rfl rfl ?_
  refine am_q_iand rfl rfl ?_
  refine am_q_if_eq rfl (fun c_5 => ?_) (fun c_5 => ?_)
  · refine am_q_iconst (v := nI 0) rfl rfl ?_
    refine am_q_ireturn rfl rfl rfl ?_
    first | rw [if_pos (by assumption)] | rw [if_neg (by assumption)]
  · refine am_q_iconst (v := nI 1) rfl rfl ?_
    refine am_q_goto rfl ?_
    refine am_q_ireturn rfl rfl rfl ?_
    first | rw [if_pos (by assumption)] | rw [if_neg (by assumption)]

theorem s_hasN (d a k : Nat) (ha : a < 2 ^ 31) (hk : k < 31) (h : am_H) : am_run (d + 1) 43 [.int (nI a), .int (nI k)] h = some (some (.int (sB (a.testBit k))), h) := by
  rw [s_has]
  by_cases z : a.testBit k = true
  · rw [if_neg (fun q => by rw [sn_bit ha hk] at q; rw [q] at z; cases z), z]; rfl
  · rw [if_pos ((sn_bit ha hk).mpr (by simpa using z)), show a.testBit k = false by simpa using z]; rfl
/-- StoneSecrets.isWithin(II)Z -/
theorem s_isWithin (d : Nat) (a b : Nat) (ha : a < 64) (hb : b < 64) (h : am_H) : am_run (d + 1) 127 [.int (nI a), .int (nI b)] (h) = some (some (.int (sB (decide (a &&& b = a)))), h) := by
  refine am_r127 (d := d + 0) (Nat.le_of_ble_eq_true rfl) [some (.int (nI a)), some (.int (nI b))] rfl ?_
  refine am_q_iload_n rfl rfl ?_
  refine am_q_iload_n rfl rfl ?_
  refine am_q_iconst (v := -1) rfl rfl ?_
  refine am_q_ixor rfl rfl ?_
  refine am_q_iand rfl rfl ?_
  refine am_q_if_ne rfl (fun c_5 => ?_) (fun c_5 => ?_)
  · refine am_q_iconst (v := nI 0) rfl rfl ?_
    refine am_q_ireturn rfl rfl rfl ?_
    first | (rw [decide_eq_true ((sn_not a ha b hb).mp (by assumption))]; rfl) | (rw [decide_eq_false (fun q => absurd ((sn_not a ha b hb).mpr q) (by assumption))]; rfl)
  · refine am_q_iconst (v := nI 1) rfl rfl ?_
    refine am_q_goto rfl ?_
    refine am_q_ireturn rfl rfl rfl ?_
    first | (rw [decide_eq_true ((sn_not a ha b hb).mp (by assumption))]; rfl) | (rw [decide_eq_false (fun q => absurd ((sn_not a ha b hb).mpr q) (by assumption))]; rfl)

theorem sn_bs : ∀ p, p < 9 → (nI (2 ^ p) <<< (nI 1 &&& 31)) ||| (nI (2 ^ p) >>> (nI 1 &&& 31)) = nI (2 ^ (p + 1) ||| 2 ^ p / 2) := by decide +kernel
/-- StoneSecrets.besideSpot(I)I -/
theorem s_besideSpot (d : Nat) (a : Int32) (h : am_H) : am_run (d + 1) 79 [.int a] (h) = some (some (.int ((a <<< (nI 1 &&& 31)) ||| (a >>> (nI 1 &&& 31)))), h) := by
  refine am_r79 (d := d + 0) (Nat.le_of_ble_eq_true rfl) [some (.int a)] rfl ?_
  refine am_q_iload_n rfl rfl ?_
  refine am_q_iconst (v := nI 1) rfl rfl ?_
  refine am_q_ishl rfl rfl ?_
  refine am_q_iload_n rfl rfl ?_
  refine am_q_iconst (v := nI 1) rfl rfl ?_
  refine am_q_ishr rfl rfl ?_
  refine am_q_ior rfl rfl ?_
  refine am_q_ireturn rfl rfl rfl ?_
  rfl

/-- Integer.bitCount -/
theorem s_bitCount0 (d : Nat) (x : Int32) (h : am_H) : am_run (d + 1) 66 [.int x] (h) = some (some (.int (sn_bcE x)), h) := by
  refine am_r66 (d := d + 0) (Nat.le_of_ble_eq_true rfl) [some (.int x)] rfl ?_
  refine am_q_iload_n rfl rfl ?_
  refine am_q_iload_n rfl rfl ?_
  refine am_q_iconst (v := nI 1) rfl rfl ?_
  refine am_q_iushr rfl rfl ?_
  refine am_q_ldc_w (v := nI 1431655765) rfl rfl ?_
  refine am_q_iand rfl rfl ?_
  refine am_q_isub rfl rfl ?_
  refine am_q_istore_n [some _] rfl (Nat.le_of_ble_eq_true rfl) rfl ?_
  refine am_q_iload_n rfl rfl ?_
  refine am_q_ldc_w (v := nI 858993459) rfl rfl ?_
  refine am_q_iand rfl rfl ?_
  refine am_q_iload_n rfl rfl ?_
  refine am_q_iconst (v := nI 2) rfl rfl ?_
  refine am_q_iushr rfl rfl ?_
  refine am_q_ldc_w (v := nI 858993459) rfl rfl ?_
  refine am_q_iand rfl rfl ?_
  refine am_q_iadd rfl (by first | exact nI_add _ _ | rfl) ?_
  refine am_q_istore_n [some _] rfl (Nat.le_of_ble_eq_true rfl) rfl ?_
  refine am_q_iload_n rfl rfl ?_
  refine am_q_iload_n rfl rfl ?_
  refine am_q_iconst (v := nI 4) rfl rfl ?_
  refine am_q_iushr rfl rfl ?_
  refine am_q_iadd rfl (by first | exact nI_add _ _ | rfl) ?_
  refine am_q_ldc_w (v := nI 252645135) rfl rfl ?_
  refine am_q_iand rfl rfl ?_
  refine am_q_istore_n [some _] rfl (Nat.le_of_ble_eq_true rfl) rfl ?_
  refine am_q_iload_n rfl rfl ?_
  refine am_q_iload_n rfl rfl ?_
  refine am_q_bipush (v := nI 8) rfl rfl ?_
  refine am_q_iushr rfl rfl ?_
  refine am_q_iadd rfl (by first | exact nI_add _ _ | rfl) ?_
  refine am_q_istore_n [some _] rfl (Nat.le_of_ble_eq_true rfl) rfl ?_
  refine am_q_iload_n rfl rfl ?_
  refine am_q_iload_n rfl rfl ?_
  refine am_q_bipush (v := nI 16) rfl rfl ?_
  refine am_q_iushr rfl rfl ?_
  refine am_q_iadd rfl (by first | exact nI_add _ _ | rfl) ?_
  refine am_q_istore_n [some _] rfl (Nat.le_of_ble_eq_true rfl) rfl ?_
  refine am_q_iload_n rfl rfl ?_
  refine am_q_bipush (v := nI 63) rfl rfl ?_
  refine am_q_iand rfl rfl ?_
  refine am_q_ireturn rfl rfl rfl ?_
  rfl

theorem s_bitCount (d a : Nat) (ha : a < 1024) (h : am_H) : am_run (d + 1) 66 [.int (nI a)] h = some (some (.int (nI (sn_bc a))), h) := by
  rw [s_bitCount0, sn_bc_ok a ha]
/-- java/lang/Math.max(II)I -/
theorem s_max (d : Nat) (x y : Int32) (h : am_H) : am_run (d + 1) 104 [.int x, .int y] (h) = some (some (.int (if x < y then y else x)), h) := by
  refine am_r104 (d := d + 0) (Nat.le_of_ble_eq_true rfl) [some (.int x), some (.int y)] rfl ?_
  refine am_q_iload_n rfl rfl ?_
  refine am_q_iload_n rfl rfl ?_
  refine am_q_icmp_lt rfl (fun c_2 => ?_) (fun c_2 => ?_)
  · refine am_q_iload_n rfl rfl ?_
    refine am_q_ireturn rfl rfl rfl ?_
    first | rw [if_pos (by assumption)] | rw [if_neg (by assumption)]
  · refine am_q_iload_n rfl rfl ?_
    refine am_q_goto rfl ?_
    refine am_q_ireturn rfl rfl rfl ?_
    first | rw [if_pos (by assumption)] | rw [if_neg (by assumption)]

/-- java/lang/Math.min(II)I -/
theorem s_min (d : Nat) (x y : Int32) (h : am_H) : am_run (d + 1) 82 [.int x, .int y] (h) = some (some (.int (if y < x then y else x)), h) := by
  refine am_r82 (d := d + 0) (Nat.le_of_ble_eq_true rfl) [some (.int x), some (.int y)] rfl ?_
  refine am_q_iload_n rfl rfl ?_
  refine am_q_iload_n rfl rfl ?_
  refine am_q_icmp_gt rfl (fun c_2 => ?_) (fun c_2 => ?_)
  · refine am_q_iload_n rfl rfl ?_
    refine am_q_ireturn rfl rfl rfl ?_
    first | rw [if_pos (by assumption)] | rw [if_neg (by assumption)]
  · refine am_q_iload_n rfl rfl ?_
    refine am_q_goto rfl ?_
    refine am_q_ireturn rfl rfl rfl ?_
    first | rw [if_pos (by assumption)] | rw [if_neg (by assumption)]

/-- java/lang/Math.abs(I)I -/
theorem s_abs (d : Nat) (x : Int32) (h : am_H) : am_run (d + 1) 134 [.int x] (h) = some (some (.int (if 0 ≤ x then x else -x)), h) := by
  refine am_r134 (d := d + 0) (Nat.le_of_ble_eq_true rfl) [some (.int x)] rfl ?_
  refine am_q_iload_n rfl rfl ?_
  refine am_q_if_ge rfl (fun c_1 => ?_) (fun c_1 => ?_)
  · refine am_q_iload_n rfl rfl ?_
    refine am_q_ireturn rfl rfl rfl ?_
    first | rw [if_pos (by assumption)] | rw [if_neg (by assumption)]
  · refine am_q_iload_n rfl rfl ?_
    refine am_q_ineg rfl rfl ?_
    refine am_q_goto rfl ?_
    refine am_q_ireturn rfl rfl rfl ?_
    first | rw [if_pos (by assumption)] | rw [if_neg (by assumption)]

def sn_spot (q : Option Nat) : Int32 := match q with
  | none => nI 0
  | some p => nI (2 ^ p)
def sn_place (q : Option Nat) : Int32 := match q with
  | none => -1
  | some p => nI p
theorem sn_po : ∀ p, p < 9 → ¬ nI (2 ^ p) = 0 ∧ nI (2 ^ p) - nI 1 = nI (2 ^ p - 1) ∧ 2 ^ p - 1 < 1024 ∧ sn_bc (2 ^ p - 1) = p := by decide +kernel
theorem s_placeOf0 (d : Nat) (h : am_H) : am_run (d + 2) 65 [.int (nI 0)] (h) = some (some (.int (-1)), h) := by
  refine am_r65 (d := d + 1) (Nat.le_of_ble_eq_true rfl) [some (.int (nI 0))] rfl ?_
  refine am_q_iload_n rfl rfl ?_
  refine am_q_if_ne rfl (fun c_1 => absurd (rfl) c_1) (fun c_1 => ?_)
  refine am_q_iconst (v := -1) rfl rfl ?_
  refine am_q_goto rfl ?_
  refine am_q_ireturn rfl rfl rfl ?_
  rfl

/-- StoneSecrets.placeOf(I)I -/
theorem s_placeOf1 (d : Nat) (p : Nat) (hp : p < 9) (h : am_H) : am_run (d + 2) 65 [.int (nI (2 ^ p))] (h) = some (some (.int (nI p)), h) := by
  refine am_r65 (d := d + 1) (Nat.le_of_ble_eq_true rfl) [some (.int (nI (2 ^ p)))] rfl ?_
  refine am_q_iload_n rfl rfl ?_
  refine am_q_if_ne rfl (fun c_1 => ?_) (fun c_1 => absurd c_1 ((sn_po p hp).1))
  refine am_q_iload_n rfl rfl ?_
  refine am_q_iconst (v := nI 1) rfl rfl ?_
  refine am_q_isub rfl (sn_po p hp).2.1 ?_
  refine am_q_call rfl rfl (s_bitCount d _ (sn_po p hp).2.2.1 h) rfl ?_
  refine am_q_ireturn rfl rfl rfl ?_
  rw [(sn_po p hp).2.2.2]

theorem s_placeOf (d : Nat) (q : Option Nat) (hq : ∀ p, q = some p → p < 9) (h : am_H) : am_run (d + 2) 65 [.int (sn_spot q)] h = some (some (.int (sn_place q)), h) := by
  cases q with
  | none => exact s_placeOf0 d h
  | some p => exact s_placeOf1 d p (hq p rfl) h
/-- a row's first m places filled -/
def am_fl (μ : am_M2) (a : Nat) (v : Int32) (m : Nat) : am_M2 := fun i k => if i = a then (if k < m then v else μ i k) else μ i k
theorem am_fl_0 (μ : am_M2) (a : Nat) (v : Int32) : am_fl μ a v 0 = μ := by
  funext i k; simp [am_fl]
theorem am_fl_s (μ : am_M2) (a : Nat) (v : Int32) (j : Nat) : am_up (am_fl μ a v j) a j v = am_fl μ a v (j + 1) := by
  funext i k
  unfold am_up am_fl
  by_cases h1 : i = a
  · by_cases h2 : k = j
    · simp [h1, h2]
    · simp only [h1, h2, if_true, if_false]
      by_cases h3 : k < j
      · rw [if_pos h3, if_pos (by omega)]
      · rw [if_neg h3, if_neg (by omega)]
  · simp [h1]
theorem s_fillL (d n a M : Nat) (v : Int32) (μ : am_M2) (ν : am_N2) (f : Nat → Option Nat) (hS : am_S0 n a = some (.inl (.int, true, M, f))) (hM : M < 2 ^ 31) : ∀ (m j : Nat) , j + m = M → am_w (d + 0) (Option.none : Option FieldType) am_g25 5 [some (.ref a), some (.int v), some (.int (nI j)), some (.int (nI M))] [] (am_hp n (am_fl μ a v j) ν) (fun x => x = (none, am_hp n (am_fl μ a v M) ν)) := by
  intro m
  induction m with
  | zero =>
    intro j  hj
    refine am_q_iload_n rfl rfl ?_
    refine am_q_iload_n rfl rfl ?_
    refine am_q_icmp_ge rfl (fun c_7 => ?_) (fun c_7 => absurd (nI_le (by omega) (by omega)) c_7)
    refine am_q_return rfl rfl ?_
    have e : M = j := by omega
    subst e
    rfl
  | succ m ih =>
    intro j  hj
    refine am_q_iload_n rfl rfl ?_
    refine am_q_iload_n rfl rfl ?_
    refine am_q_icmp_ge rfl (fun c_7 => absurd c_7 (nI_ge (by omega) (by omega))) (fun c_7 => ?_)
    refine am_q_aload_n rfl rfl ?_
    refine am_q_iload_n rfl rfl ?_
    refine am_q_iload_n rfl rfl ?_
    refine am_q_iast rfl hS (by first | exact am_ix_nI (by omega) (by omega) | rfl) rfl ?_
    rw [am_fl_s]
    refine am_q_iinc [some _, some _, some _, some _] rfl (c := nI 1) rfl rfl (Nat.le_of_ble_eq_true rfl) (nI_add _ _) rfl ?_
    refine am_q_goto rfl ?_
    exact ih (j + 1) (by omega)

/-- java/util/Arrays.fill([II)V -/
theorem s_fill (d : Nat) (n a M : Nat) (v : Int32) (μ : am_M2) (ν : am_N2) (f : Nat → Option Nat) (hS : am_S0 n a = some (.inl (.int, true, M, f))) (hM : M < 2 ^ 31) : am_run (d + 1) 25 [.ref a, .int v] (am_hp n μ ν) = some (none, am_hp n (am_fl μ a v M) ν) := by
  refine am_r25 (d := d + 0) (Nat.le_of_ble_eq_true rfl) [some (.ref a), some (.int v), none, none] rfl ?_
  refine am_q_iconst (v := nI 0) rfl rfl ?_
  refine am_q_istore_n [some _, some _, some _, none] rfl (Nat.le_of_ble_eq_true rfl) rfl ?_
  refine am_q_aload_n rfl rfl ?_
  refine am_q_alen rfl hS (v := _) rfl ?_
  refine am_q_istore_n [some _, some _, some _, some _] rfl (Nat.le_of_ble_eq_true rfl) rfl ?_
  have e := s_fillL d n a M v μ ν f hS hM M 0 (by omega)
  rw [am_fl_0] at e
  exact e

def sn_or6 (f : Nat → Nat) : Nat → Nat
  | 0 => 0
  | n + 1 => sn_or6 f n ||| f n
theorem s_takenL (d n a : Nat) (g : Nat → Nat) (μ : am_M2) (ν : am_N2) (f : Nat → Option Nat) (hS : am_S0 n a = some (.inl (.int, true, 6, f))) (hg : ∀ k, k < 6 → μ a k = nI (g k)) : ∀ (m j : Nat) (o5 : Option Value), j + m = 6 → am_w (d + 0) (Option.some FieldType.int) am_g77 10 [some (.ref a), some (.int (nI (sn_or6 g j))), some (.ref a), some (.int (nI 6)), some (.int (nI j)), o5] [] (am_hp n μ ν) (fun x => x = (some (.int (nI (sn_or6 g 6))), am_hp n μ ν)) := by
  intro m
  induction m with
  | zero =>
    intro j o5 hj
    refine am_q_iload rfl rfl ?_
    refine am_q_iload_n rfl rfl ?_
    refine am_q_icmp_ge rfl (fun c_13 => ?_) (fun c_13 => absurd (nI_le (by omega) (by omega)) c_13)
    refine am_q_iload_n rfl rfl ?_
    refine am_q_ireturn rfl rfl rfl ?_
    have e : 6 = j := by omega
    subst e
    rfl
  | succ m ih =>
    intro j o5 hj
    refine am_q_iload rfl rfl ?_
    refine am_q_iload_n rfl rfl ?_
    refine am_q_icmp_ge rfl (fun c_13 => absurd c_13 (nI_ge (by omega) (by omega))) (fun c_13 => ?_)
    refine am_q_aload_n rfl rfl ?_
    refine am_q_iload rfl rfl ?_
    refine am_q_iald rfl hS (am_ix_nI (by omega) (by omega)) (hg j (by omega)) ?_
    refine am_q_istore [some _, some _, some _, some _, some _, some _] rfl (Nat.le_of_ble_eq_true rfl) rfl ?_
    refine am_q_iload_n rfl rfl ?_
    refine am_q_iload rfl rfl ?_
    refine am_q_ior rfl (sn_or _ _) ?_
    refine am_q_istore_n [some _, some _, some _, some _, some _, some _] rfl (Nat.le_of_ble_eq_true rfl) rfl ?_
    refine am_q_iinc [some _, some _, some _, some _, some _, some _] rfl (c := nI 1) rfl rfl (Nat.le_of_ble_eq_true rfl) (nI_add _ _) rfl ?_
    refine am_q_goto rfl ?_
    exact ih (j + 1) _ (by omega)

/-- StoneSecrets.taken([I)I -/
theorem s_taken (d : Nat) (n a : Nat) (g : Nat → Nat) (μ : am_M2) (ν : am_N2) (f : Nat → Option Nat) (hS : am_S0 n a = some (.inl (.int, true, 6, f))) (hg : ∀ k, k < 6 → μ a k = nI (g k)) : am_run (d + 1) 77 [.ref a] (am_hp n μ ν) = some (some (.int (nI (sn_or6 g 6))), am_hp n μ ν) := by
  refine am_r77 (d := d + 0) (Nat.le_of_ble_eq_true rfl) [some (.ref a), none, none, none, none, none] rfl ?_
  refine am_q_iconst (v := nI 0) rfl rfl ?_
  refine am_q_istore_n [some _, some _, none, none, none, none] rfl (Nat.le_of_ble_eq_true rfl) rfl ?_
  refine am_q_aload_n rfl rfl ?_
  refine am_q_astore_n [some _, some _, some _, none, none, none] rfl (Nat.le_of_ble_eq_true rfl) rfl ?_
  refine am_q_aload_n rfl rfl ?_
  refine am_q_alen rfl hS (v := _) rfl ?_
  refine am_q_istore_n [some _, some _, some _, some _, none, none] rfl (Nat.le_of_ble_eq_true rfl) rfl ?_
  refine am_q_iconst (v := nI 0) rfl rfl ?_
  refine am_q_istore [some _, some _, some _, some _, some _, none] rfl (Nat.le_of_ble_eq_true rfl) rfl ?_
  exact s_takenL d n a g μ ν f hS hg 6 0 _ (by omega)
