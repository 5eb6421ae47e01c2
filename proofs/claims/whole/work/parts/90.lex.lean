/-! ===== tokens ===== -/
def blB (c : Nat) : Bool := decide (c = 10) || decide (c = 32)
def leB (c : Nat) : Bool := decide (97 ≤ c) && decide (c ≤ 122)
def diB (c : Nat) : Bool := decide (48 ≤ c) && decide (c ≤ 57)
def sgB (c : Nat) : Bool := decide (c = 40) || decide (c = 41) || decide (c = 42) || decide (c = 43) || decide (c = 45) || decide (c = 59) || decide (c = 60) || decide (c = 61)
def rn (f : Nat → Bool) (n p : Nat) : Nat := p + fa_first (fun i => !(f (p + i))) (n - p)
theorem rn_ge (f : Nat → Bool) (n p : Nat) : p ≤ rn f n p := Nat.le_add_right _ _
theorem rn_le {f : Nat → Bool} {n p : Nat} (h : p ≤ n) : rn f n p ≤ n := by have := fa_first_le (fun i => !(f (p + i))) (n - p); unfold rn; omega
theorem rn_in {f : Nat → Bool} {n p q : Nat} (h1 : p ≤ q) (h2 : q < rn f n p) : f q = true := by
  have := fa_first_no (fun i => !(f (p + i))) (n - p) (q - p) (by unfold rn at h2; omega)
  rw [show p + (q - p) = q by omega] at this
  simpa using this
theorem rn_out {f : Nat → Bool} {n p : Nat} (h : rn f n p < n) : f (rn f n p) = false := by
  have := fa_first_yes (fun i => !(f (p + i))) (n - p) (by unfold rn at h; omega)
  show f (p + fa_first (fun i => !(f (p + i))) (n - p)) = false
  simpa using this
theorem rn_end {f : Nat → Bool} {n p : Nat} (h : n ≤ p) : rn f n p = p := by have := fa_first_le (fun i => !(f (p + i))) (n - p); unfold rn; omega
theorem rn_gt {f : Nat → Bool} {n p : Nat} (h : p < n) (hf : f p = true) : p < rn f n p := by
  by_cases z : rn f n p = p
  · have := rn_out (f := f) (n := n) (p := p) (by omega)
    rw [z, hf] at this; cases this
  · have := rn_ge f n p; omega
theorem rn_self {f : Nat → Bool} {n p : Nat} (hf : f p = false) : rn f n p = p := by
  by_cases z : p < rn f n p
  · have := rn_in (Nat.le_refl p) z; rw [hf] at this; cases this
  · have := rn_ge f n p; omega
def lxP (X : tTp) (p : Nat) : Nat := rn (fun q => blB (X.1 q)) X.2 p
def lxL (X : tTp) (q : Nat) : Nat := rn (fun x => leB (X.1 x)) X.2 q
def lxD (X : tTp) (q : Nat) : Nat := rn (fun x => diB (X.1 x)) X.2 q
def lkK (X : tTp) (q : Nat) : Nat := if X.2 ≤ q then 0 else if leB (X.1 q) = true then (if 8 < lxL X q - q then 1 else 2) else if diB (X.1 q) = true then (if 4 < lxD X q - q then 1 else 3) else if sgB (X.1 q) = true then 4 else 1
def lkE (X : tTp) (q : Nat) : Nat := if X.2 ≤ q then q else if leB (X.1 q) = true then lxL X q else if diB (X.1 q) = true then lxD X q else q + 1
def en (X : tTp) : Nat → Nat
  | 0 => 0
  | i + 1 => lkE X (lxP X (en X i))
def pl (X : tTp) (i : Nat) : Nat := lxP X (en X i)
def kd (X : tTp) (i : Nat) : Nat := lkK X (pl X i)
theorem en_s (X : tTp) (i : Nat) : en X (i + 1) = lkE X (pl X i) := rfl
def wdF (X : tTp) (q : Nat) : Nat → Nat := lpF (fun k x => x * 256 + X.1 (q + k)) 0
def nuF (X : tTp) (q : Nat) : Nat → Nat := lpF (fun k x => x * 10 + (X.1 (q + k) - 48)) 0
def wd (X : tTp) (i : Nat) : Nat := wdF X (pl X i) (en X (i + 1) - pl X i)
def nu (X : tTp) (i : Nat) : Nat := nuF X (pl X i) (en X (i + 1) - pl X i)
def lg (r : Nat) : Nat := [0x77616c6c, 0x736f756c, 0x736563726574, 0x647565, 0x6875727473, 0x66726f7374, 0x66616c6c73, 0x7765656b, 0x74656c6c, 0x736574, 0x74616b65, 0x706c61696e, 0x626f79, 0x707269657374, 0x6c6f7264, 0x6e6f74, 0x616e64, 0x6f72, 0x776569676874, 0x636f6c64, 0x626573696465, 0x64617465].getD r 0
def lgI (w : Nat) : Nat := fa_first (fun r => decide (lg r = w)) 18
def tkc (X : tTp) (i : Nat) : Nat := if kd X i = 2 then (if lgI (wd X i) < 18 then 128 + lgI (wd X i) else 2) else if kd X i = 4 then X.1 (pl X i) else kd X i
theorem en_le {X : tTp} : ∀ i, en X i ≤ X.2
  | 0 => Nat.zero_le _
  | i + 1 => by
    have h1 := en_le (X := X) i
    have h2 : pl X i ≤ X.2 := by unfold pl lxP; exact rn_le h1
    rw [en_s]
    unfold lkE
    split
    · exact h2
    · split
      · exact rn_le h2
      · split
        · exact rn_le h2
        · omega
theorem pl_le (X : tTp) (i : Nat) : pl X i ≤ X.2 := by unfold pl lxP; exact rn_le (en_le i)
theorem pl_ge (X : tTp) (i : Nat) : en X i ≤ pl X i := by unfold pl lxP; exact rn_ge _ _ _
theorem kd_0 {X : tTp} {i : Nat} : kd X i = 0 ↔ X.2 ≤ pl X i := by
  unfold kd lkK
  constructor
  · intro h
    by_cases z : X.2 ≤ pl X i
    · exact z
    · rw [if_neg z] at h
      repeat' split at h
      all_goals omega
  · intro h; rw [if_pos h]
theorem en_lt {X : tTp} {i : Nat} (h : kd X i ≠ 0) : pl X i < en X (i + 1) := by
  have h0 : ¬ X.2 ≤ pl X i := fun z => h (kd_0.mpr z)
  rw [en_s]
  unfold lkE
  rw [if_neg h0]
  split
  · rename_i c; exact rn_gt (f := fun x => leB (X.1 x)) (by omega) c
  · split
    · rename_i c; exact rn_gt (f := fun x => diB (X.1 x)) (by omega) c
    · omega
theorem lg0 {x y : Int64} : lg_cmp x y = 0 ↔ x = y := by
  constructor
  · intro h
    have h1 := (lg_cmp_ge x y).mp (by rw [h]; decide)
    have h2 := (lg_cmp_le x y).mp (by rw [h]; decide)
    exact Int64.le_antisymm h2 h1
  · intro h; subst h; unfold lg_cmp; rw [if_neg Int64.lt_irrefl, if_pos rfl]
def xLg (ν : am_N2) : Prop := ∀ r, r < 18 → ν 1 r = lN (lg r)
theorem lg_63 : ∀ r, r < 22 → lg r < 2 ^ 63 := by decide
theorem wdF_lt {X : tTp} {q : Nat} (hX : ∀ k, X.1 (q + k) < 128 ∨ True) : ∀ m, (∀ k, k < m → X.1 (q + k) < 128) → wdF X q m < 256 ^ m
  | 0, _ => by show 0 < 1; decide
  | m + 1, h => by
    have := wdF_lt hX m (fun k hk => h k (by omega))
    have h2 := h m (by omega)
    have e : wdF X q (m + 1) = wdF X q m * 256 + X.1 (q + m) := rfl
    rw [e, Nat.pow_succ]; omega
theorem w63 {X : tTp} {q m : Nat} (hm : m ≤ 8) (h : ∀ k, k < m → X.1 (q + k) < 128) : wdF X q m < 2 ^ 63 := by
  have hlt : ∀ m, (∀ k, k < m → X.1 (q + k) < 128) → wdF X q m < 256 ^ m := wdF_lt (fun _ => Or.inr trivial)
  rcases Nat.lt_or_ge m 8 with z | z
  · have := hlt m h
    have h2 : 256 ^ m ≤ 256 ^ 7 := Nat.pow_le_pow_right (by decide) (by omega)
    omega
  · have hm8 : m = 8 := by omega
    subst hm8
    have h7 := hlt 7 (fun k hk => h k (by omega))
    have h8 := h 7 (by omega)
    cases X with
    | mk c n =>
      by_cases z2 : wdF (c, n) q 1 < 128
      · have : ∀ m, wdF (c, n) q (1 + m) < 128 * 256 ^ m ∨ ¬ (∀ k, k < 1 + m → c (q + k) < 128) := fun m => by
          induction m with
          | zero => left; simpa using z2
          | succ m ih =>
            by_cases hh : ∀ k, k < 1 + (m + 1) → c (q + k) < 128
            · left
              rcases ih with i1 | i1
              · have e : wdF (c, n) q (1 + (m + 1)) = wdF (c, n) q (1 + m) * 256 + c (q + (1 + m)) := rfl
                have := hh (1 + m) (by omega)
                rw [e, Nat.pow_succ]; omega
              · exact absurd (fun k hk => hh k (by omega)) i1
            · right; exact hh
        rcases this 7 with i1 | i1
        · have i1 : wdF (c, n) q 8 < 128 * 256 ^ 7 := i1
          have e : (128 : Nat) * 256 ^ 7 = 2 ^ 63 := by decide
          omega
        · exact absurd h i1
      · have e : wdF (c, n) q 1 = 0 * 256 + c (q + 0) := rfl
        have h00 : c (q + 0) < 128 := h 0 (by omega)
        exact absurd (by rw [e]; omega) z2
theorem s_isBlank (d : Nat) (c : Nat) (hc : c < 2 ^ 31) (h : am_H) : am_run (d + 1) 16 [.int (nI c)] (h) = some (some (.int (sB (blB c))), h) := by
  refine am_r16 (d := d + 0) (Nat.le_of_ble_eq_true rfl) [some (.int (nI c))] rfl ?_
  refine am_q_iload_n rfl rfl ?_
  refine am_q_bipush (v := nI 10) rfl rfl ?_
  refine am_q_ieqN rfl (by omega) (by omega) (fun c_3 => ?_) (fun c_3 => ?_)
  · refine am_q_iconst (v := nI 1) rfl rfl ?_
    refine am_q_goto rfl ?_
    refine am_q_ireturn rfl rfl rfl ?_
    unfold blB
    first | (rw [decide_eq_true c_3]; rfl) | (rw [decide_eq_false c_3, decide_eq_true c_9]; rfl) | (rw [decide_eq_false c_3, decide_eq_false c_9]; rfl)
  · refine am_q_iload_n rfl rfl ?_
    refine am_q_bipush (v := nI 32) rfl rfl ?_
    refine am_q_ineN rfl (by omega) (by omega) (fun c_9 => ?_) (fun c_9 => ?_)
    · refine am_q_iconst (v := nI 0) rfl rfl ?_
      refine am_q_ireturn rfl rfl rfl ?_
      unfold blB
      first | (rw [decide_eq_true c_3]; rfl) | (rw [decide_eq_false c_3, decide_eq_true c_9]; rfl) | (rw [decide_eq_false c_3, decide_eq_false c_9]; rfl)
    · refine am_q_iconst (v := nI 1) rfl rfl ?_
      refine am_q_goto rfl ?_
      refine am_q_ireturn rfl rfl rfl ?_
      unfold blB
      first | (rw [decide_eq_true c_3]; rfl) | (rw [decide_eq_false c_3, decide_eq_true c_9]; rfl) | (rw [decide_eq_false c_3, decide_eq_false c_9]; rfl)

theorem s_isLetter (d : Nat) (c : Nat) (hc : c < 2 ^ 31) (h : am_H) : am_run (d + 1) 17 [.int (nI c)] (h) = some (some (.int (sB (leB c))), h) := by
  refine am_r17 (d := d + 0) (Nat.le_of_ble_eq_true rfl) [some (.int (nI c))] rfl ?_
  refine am_q_iload_n rfl rfl ?_
  refine am_q_bipush (v := nI 97) rfl rfl ?_
  refine am_q_iltN rfl (by omega) (by omega) (fun c_3 => ?_) (fun c_3 => ?_)
  · refine am_q_iconst (v := nI 0) rfl rfl ?_
    refine am_q_ireturn rfl rfl rfl ?_
    unfold leB
    first | (rw [decide_eq_true c_3, decide_eq_true c_9]; rfl) | (rw [decide_eq_true c_3, decide_eq_false (Nat.not_le.mpr c_9)]; rfl) | (rw [decide_eq_false (Nat.not_le.mpr c_3)]; rfl)
  · refine am_q_iload_n rfl rfl ?_
    refine am_q_bipush (v := nI 122) rfl rfl ?_
    refine am_q_igtN rfl (by omega) (by omega) (fun c_9 => ?_) (fun c_9 => ?_)
    · refine am_q_iconst (v := nI 0) rfl rfl ?_
      refine am_q_ireturn rfl rfl rfl ?_
      unfold leB
      first | (rw [decide_eq_true c_3, decide_eq_true c_9]; rfl) | (rw [decide_eq_true c_3, decide_eq_false (Nat.not_le.mpr c_9)]; rfl) | (rw [decide_eq_false (Nat.not_le.mpr c_3)]; rfl)
    · refine am_q_iconst (v := nI 1) rfl rfl ?_
      refine am_q_goto rfl ?_
      refine am_q_ireturn rfl rfl rfl ?_
      unfold leB
      first | (rw [decide_eq_true c_3, decide_eq_true c_9]; rfl) | (rw [decide_eq_true c_3, decide_eq_false (Nat.not_le.mpr c_9)]; rfl) | (rw [decide_eq_false (Nat.not_le.mpr c_3)]; rfl)

theorem s_isNumeral (d : Nat) (c : Nat) (hc : c < 2 ^ 31) (h : am_H) : am_run (d + 1) 20 [.int (nI c)] (h) = some (some (.int (sB (diB c))), h) := by
  refine am_r20 (d := d + 0) (Nat.le_of_ble_eq_true rfl) [some (.int (nI c))] rfl ?_
  refine am_q_iload_n rfl rfl ?_
  refine am_q_bipush (v := nI 48) rfl rfl ?_
  refine am_q_iltN rfl (by omega) (by omega) (fun c_3 => ?_) (fun c_3 => ?_)
  · refine am_q_iconst (v := nI 0) rfl rfl ?_
    refine am_q_ireturn rfl rfl rfl ?_
    unfold diB
    first | (rw [decide_eq_true c_3, decide_eq_true c_9]; rfl) | (rw [decide_eq_true c_3, decide_eq_false (Nat.not_le.mpr c_9)]; rfl) | (rw [decide_eq_false (Nat.not_le.mpr c_3)]; rfl)
  · refine am_q_iload_n rfl rfl ?_
    refine am_q_bipush (v := nI 57) rfl rfl ?_
    refine am_q_igtN rfl (by omega) (by omega) (fun c_9 => ?_) (fun c_9 => ?_)
    · refine am_q_iconst (v := nI 0) rfl rfl ?_
      refine am_q_ireturn rfl rfl rfl ?_
      unfold diB
      first | (rw [decide_eq_true c_3, decide_eq_true c_9]; rfl) | (rw [decide_eq_true c_3, decide_eq_false (Nat.not_le.mpr c_9)]; rfl) | (rw [decide_eq_false (Nat.not_le.mpr c_3)]; rfl)
    · refine am_q_iconst (v := nI 1) rfl rfl ?_
      refine am_q_goto rfl ?_
      refine am_q_ireturn rfl rfl rfl ?_
      unfold diB
      first | (rw [decide_eq_true c_3, decide_eq_true c_9]; rfl) | (rw [decide_eq_true c_3, decide_eq_false (Nat.not_le.mpr c_9)]; rfl) | (rw [decide_eq_false (Nat.not_le.mpr c_3)]; rfl)

theorem m_isLetter (d : Nat) (c : Nat) (hc : c < 2 ^ 31) (h : am_H) : am_run (d + 1) 186 [.int (nI c)] (h) = some (some (.int (sB (leB c))), h) := by
  refine am_r186 (d := d + 0) (Nat.le_of_ble_eq_true rfl) [some (.int (nI c))] rfl ?_
  refine am_q_iload_n rfl rfl ?_
  refine am_q_bipush (v := nI 97) rfl rfl ?_
  refine am_q_iltN rfl (by omega) (by omega) (fun c_3 => ?_) (fun c_3 => ?_)
  · refine am_q_iconst (v := nI 0) rfl rfl ?_
    refine am_q_ireturn rfl rfl rfl ?_
    unfold leB
    first | (rw [decide_eq_true c_3, decide_eq_true c_9]; rfl) | (rw [decide_eq_true c_3, decide_eq_false (Nat.not_le.mpr c_9)]; rfl) | (rw [decide_eq_false (Nat.not_le.mpr c_3)]; rfl)
  · refine am_q_iload_n rfl rfl ?_
    refine am_q_bipush (v := nI 122) rfl rfl ?_
    refine am_q_igtN rfl (by omega) (by omega) (fun c_9 => ?_) (fun c_9 => ?_)
    · refine am_q_iconst (v := nI 0) rfl rfl ?_
      refine am_q_ireturn rfl rfl rfl ?_
      unfold leB
      first | (rw [decide_eq_true c_3, decide_eq_true c_9]; rfl) | (rw [decide_eq_true c_3, decide_eq_false (Nat.not_le.mpr c_9)]; rfl) | (rw [decide_eq_false (Nat.not_le.mpr c_3)]; rfl)
    · refine am_q_iconst (v := nI 1) rfl rfl ?_
      refine am_q_goto rfl ?_
      refine am_q_ireturn rfl rfl rfl ?_
      unfold leB
      first | (rw [decide_eq_true c_3, decide_eq_true c_9]; rfl) | (rw [decide_eq_true c_3, decide_eq_false (Nat.not_le.mpr c_9)]; rfl) | (rw [decide_eq_false (Nat.not_le.mpr c_3)]; rfl)

theorem m_isDigit (d : Nat) (c : Nat) (hc : c < 2 ^ 31) (h : am_H) : am_run (d + 1) 188 [.int (nI c)] (h) = some (some (.int (sB (diB c))), h) := by
  refine am_r188 (d := d + 0) (Nat.le_of_ble_eq_true rfl) [some (.int (nI c))] rfl ?_
  refine am_q_iload_n rfl rfl ?_
  refine am_q_bipush (v := nI 48) rfl rfl ?_
  refine am_q_iltN rfl (by omega) (by omega) (fun c_3 => ?_) (fun c_3 => ?_)
  · refine am_q_iconst (v := nI 0) rfl rfl ?_
    refine am_q_ireturn rfl rfl rfl ?_
    unfold diB
    first | (rw [decide_eq_true c_3, decide_eq_true c_9]; rfl) | (rw [decide_eq_true c_3, decide_eq_false (Nat.not_le.mpr c_9)]; rfl) | (rw [decide_eq_false (Nat.not_le.mpr c_3)]; rfl)
  · refine am_q_iload_n rfl rfl ?_
    refine am_q_bipush (v := nI 57) rfl rfl ?_
    refine am_q_igtN rfl (by omega) (by omega) (fun c_9 => ?_) (fun c_9 => ?_)
    · refine am_q_iconst (v := nI 0) rfl rfl ?_
      refine am_q_ireturn rfl rfl rfl ?_
      unfold diB
      first | (rw [decide_eq_true c_3, decide_eq_true c_9]; rfl) | (rw [decide_eq_true c_3, decide_eq_false (Nat.not_le.mpr c_9)]; rfl) | (rw [decide_eq_false (Nat.not_le.mpr c_3)]; rfl)
    · refine am_q_iconst (v := nI 1) rfl rfl ?_
      refine am_q_goto rfl ?_
      refine am_q_ireturn rfl rfl rfl ?_
      unfold diB
      first | (rw [decide_eq_true c_3, decide_eq_true c_9]; rfl) | (rw [decide_eq_true c_3, decide_eq_false (Nat.not_le.mpr c_9)]; rfl) | (rw [decide_eq_false (Nat.not_le.mpr c_3)]; rfl)

theorem sg_tsw : ∀ c, c < 128 → am_tsw 1 105 40 61 [103, 103, 103, 103, 105, 103, 105, 105, 105, 105, 105, 105, 105, 105, 105, 105, 105, 105, 105, 103, 103, 103] (nI c) = some (if sgB c = true then 104 else 106) := by decide +kernel
theorem s_isSign_true (d : Nat) (c : Nat) (hc : c < 128) (hs : sgB c = true) (h : am_H) : am_run (d + 1) 22 [.int (nI c)] (h) = some (some (.int (sB true)), h) := by
  refine am_r22 (d := d + 0) (Nat.le_of_ble_eq_true rfl) [some (.int (nI c))] rfl ?_
  refine am_q_iload_n rfl rfl ?_
  refine am_q_tsw (t := 104) rfl ((sg_tsw c hc).trans (by rw [hs]; rfl)) ?_
  refine am_q_iconst (v := nI 1) rfl rfl ?_
  refine am_q_ireturn rfl rfl rfl ?_
  rfl

theorem s_isSign_false (d : Nat) (c : Nat) (hc : c < 128) (hs : sgB c = false) (h : am_H) : am_run (d + 1) 22 [.int (nI c)] (h) = some (some (.int (sB false)), h) := by
  refine am_r22 (d := d + 0) (Nat.le_of_ble_eq_true rfl) [some (.int (nI c))] rfl ?_
  refine am_q_iload_n rfl rfl ?_
  refine am_q_tsw (t := 106) rfl ((sg_tsw c hc).trans (by rw [hs]; rfl)) ?_
  refine am_q_iconst (v := nI 0) rfl rfl ?_
  refine am_q_ireturn rfl rfl rfl ?_
  rfl

theorem s_isSign (d c : Nat) (hc : c < 128) (h : am_H) : am_run (d + 1) 22 [.int (nI c)] h = some (some (.int (sB (sgB c))), h) := by
  cases hs : sgB c with
  | true => exact s_isSign_true d c hc hs h
  | false => exact s_isSign_false d c hc hs h
theorem sg_m : ∀ c, c < 128 → sgB c = (decide (c = 40) || decide (c = 41) || decide (c = 59) || decide (c = 61) || decide (c = 60) || decide (c = 43) || decide (c = 45) || decide (c = 42)) := by decide +kernel
/-- StoneSecretsModel.isSignOf(I)Z -/
theorem m_isSignOf (d : Nat) (c : Nat) (hc : c < 128) (h : am_H) : am_run (d + 1) 189 [.int (nI c)] (h) = some (some (.int (sB (sgB c))), h) := by
  refine am_r189 (d := d + 0) (Nat.le_of_ble_eq_true rfl) [some (.int (nI c))] rfl ?_
  refine am_q_iload_n rfl rfl ?_
  refine am_q_bipush (v := nI 40) rfl rfl ?_
  refine am_q_ieqN rfl (by omega) (by omega) (fun c_3 => ?_) (fun c_3 => ?_)
  · refine am_q_iconst (v := nI 1) rfl rfl ?_
    refine am_q_goto rfl ?_
    refine am_q_ireturn rfl rfl rfl ?_
    rw [sg_m c hc, decide_eq_true c_3]
    simp only [Bool.false_or, Bool.true_or, Bool.or_true]; rfl
  · refine am_q_iload_n rfl rfl ?_
    refine am_q_bipush (v := nI 41) rfl rfl ?_
    refine am_q_ieqN rfl (by omega) (by omega) (fun c_9 => ?_) (fun c_9 => ?_)
    · refine am_q_iconst (v := nI 1) rfl rfl ?_
      refine am_q_goto rfl ?_
      refine am_q_ireturn rfl rfl rfl ?_
      rw [sg_m c hc, decide_eq_false c_3, decide_eq_true c_9]
      simp only [Bool.false_or, Bool.true_or, Bool.or_true]; rfl
    · refine am_q_iload_n rfl rfl ?_
      refine am_q_bipush (v := nI 59) rfl rfl ?_
      refine am_q_ieqN rfl (by omega) (by omega) (fun c_15 => ?_) (fun c_15 => ?_)
      · refine am_q_iconst (v := nI 1) rfl rfl ?_
        refine am_q_goto rfl ?_
        refine am_q_ireturn rfl rfl rfl ?_
        rw [sg_m c hc, decide_eq_false c_3, decide_eq_false c_9, decide_eq_true c_15]
        simp only [Bool.false_or, Bool.true_or, Bool.or_true]; rfl
      · refine am_q_iload_n rfl rfl ?_
        refine am_q_bipush (v := nI 61) rfl rfl ?_
        refine am_q_ieqN rfl (by omega) (by omega) (fun c_21 => ?_) (fun c_21 => ?_)
        · refine am_q_iconst (v := nI 1) rfl rfl ?_
          refine am_q_goto rfl ?_
          refine am_q_ireturn rfl rfl rfl ?_
          rw [sg_m c hc, decide_eq_false c_3, decide_eq_false c_9, decide_eq_false c_15, decide_eq_true c_21]
          simp only [Bool.false_or, Bool.true_or, Bool.or_true]; rfl
        · refine am_q_iload_n rfl rfl ?_
          refine am_q_bipush (v := nI 60) rfl rfl ?_
          refine am_q_ieqN rfl (by omega) (by omega) (fun c_27 => ?_) (fun c_27 => ?_)
          · refine am_q_iconst (v := nI 1) rfl rfl ?_
            refine am_q_goto rfl ?_
            refine am_q_ireturn rfl rfl rfl ?_
            rw [sg_m c hc, decide_eq_false c_3, decide_eq_false c_9, decide_eq_false c_15, decide_eq_false c_21, decide_eq_true c_27]
            simp only [Bool.false_or, Bool.true_or, Bool.or_true]; rfl
          · refine am_q_iload_n rfl rfl ?_
            refine am_q_bipush (v := nI 43) rfl rfl ?_
            refine am_q_ieqN rfl (by omega) (by omega) (fun c_33 => ?_) (fun c_33 => ?_)
            · refine am_q_iconst (v := nI 1) rfl rfl ?_
              refine am_q_goto rfl ?_
              refine am_q_ireturn rfl rfl rfl ?_
              rw [sg_m c hc, decide_eq_false c_3, decide_eq_false c_9, decide_eq_false c_15, decide_eq_false c_21, decide_eq_false c_27, decide_eq_true c_33]
              simp only [Bool.false_or, Bool.true_or, Bool.or_true]; rfl
            · refine am_q_iload_n rfl rfl ?_
              refine am_q_bipush (v := nI 45) rfl rfl ?_
              refine am_q_ieqN rfl (by omega) (by omega) (fun c_39 => ?_) (fun c_39 => ?_)
              · refine am_q_iconst (v := nI 1) rfl rfl ?_
                refine am_q_goto rfl ?_
                refine am_q_ireturn rfl rfl rfl ?_
                rw [sg_m c hc, decide_eq_false c_3, decide_eq_false c_9, decide_eq_false c_15, decide_eq_false c_21, decide_eq_false c_27, decide_eq_false c_33, decide_eq_true c_39]
                simp only [Bool.false_or, Bool.true_or, Bool.or_true]; rfl
              · refine am_q_iload_n rfl rfl ?_
                refine am_q_bipush (v := nI 42) rfl rfl ?_
                refine am_q_ineN rfl (by omega) (by omega) (fun c_45 => ?_) (fun c_45 => ?_)
                · refine am_q_iconst (v := nI 0) rfl rfl ?_
                  refine am_q_ireturn rfl rfl rfl ?_
                  rw [sg_m c hc, decide_eq_false c_3, decide_eq_false c_9, decide_eq_false c_15, decide_eq_false c_21, decide_eq_false c_27, decide_eq_false c_33, decide_eq_false c_39, decide_eq_false c_45]; rfl
                · refine am_q_iconst (v := nI 1) rfl rfl ?_
                  refine am_q_goto rfl ?_
                  refine am_q_ireturn rfl rfl rfl ?_
                  rw [sg_m c hc, decide_eq_false c_3, decide_eq_false c_9, decide_eq_false c_15, decide_eq_false c_21, decide_eq_false c_27, decide_eq_false c_33, decide_eq_false c_39, decide_eq_true c_45]
                  simp only [Bool.false_or, Bool.true_or, Bool.or_true]; rfl

theorem s_wtL (d n w : Nat) (μ : am_M2) (ν : am_N2) (hL : xLg ν) (hw : w < 2 ^ 63) (h6 : ν 3 6 = lN w) : ∀ (m j : Nat) , j + m = 18 → (∀ r, r < j → decide (lg r = w) = false) → am_w (d + 0) (Option.some FieldType.int) am_g19 2 [some (.ref 3), some (.int (nI j))] [] (am_hp n μ ν) (fun y => y = (some (.int (nI (if lgI w < 18 then 128 + lgI w else 2))), am_hp n μ ν)) := by
  intro m
  induction m with
  | zero =>
    intro j  hj hinv
    refine am_q_iload_n rfl rfl ?_
    refine am_q_getstatic rfl ?_
    refine am_q_alen rfl rfl (v := _) (show Int32.ofNat 18 = nI 18 from rfl) ?_
    refine am_q_igeN rfl (by omega) (by omega) (fun c_7 => ?_) (fun c_7 => absurd c_7 (by omega))
    refine am_q_iconst (v := nI 2) rfl rfl ?_
    refine am_q_ireturn rfl rfl rfl ?_
    have hf : ¬ lgI w < 18 := ff_no (fun r hr => hinv r (by omega))
    rw [if_neg hf]
  | succ m ih =>
    intro j  hj hinv
    refine am_q_iload_n rfl rfl ?_
    refine am_q_getstatic rfl ?_
    refine am_q_alen rfl rfl (v := _) (show Int32.ofNat 18 = nI 18 from rfl) ?_
    refine am_q_igeN rfl (by omega) (by omega) (fun c_7 => absurd c_7 (by omega)) (fun c_7 => ?_)
    refine am_q_getstatic rfl ?_
    refine am_q_iload_n rfl rfl ?_
    refine am_q_lald rfl rfl (by first | exact am_ix_nI (by omega) (by omega) | rfl) (hL j (by omega)) ?_
    refine am_q_aload_n rfl rfl ?_
    refine am_q_gl rfl rfl rfl h6 ?_
    refine am_q_lcmp rfl rfl ?_
    refine am_q_if_ne rfl (fun c_20 => ?_) (fun c_20 => ?_)
    · have hne : decide (lg j = w) = false := decide_eq_false (fun z => c_20 (lg0.mpr (by rw [z])))
      refine am_q_iinc [some _, some _] rfl (c := nI 1) rfl rfl (Nat.le_of_ble_eq_true rfl) (nI_add _ _) rfl ?_
      refine am_q_goto rfl ?_
      exact ih (j + 1) (by omega) (fun r hr => by
                by_cases z : r = j
                · rw [z]; exact hne
                · exact hinv r (by omega))
    · refine am_q_sipush (v := nI 128) rfl rfl ?_
      refine am_q_iload_n rfl rfl ?_
      refine am_q_iadd rfl (nI_add _ _) ?_
      refine am_q_ireturn rfl rfl rfl ?_
      have he : lg j = w := (pk_lEQ (lg_63 j (by omega)) hw).mp (lg0.mp c_20)
      have hf : lgI w = j := ff_yes (by omega) hinv (decide_eq_true he)
      rw [hf, if_pos (by omega)]

/-- StoneSecrets$Tape.wordToken()I -/
theorem s_wordToken (d : Nat) (n w : Nat) (μ : am_M2) (ν : am_N2) (hL : xLg ν) (hw : w < 2 ^ 63) (h6 : ν 3 6 = lN w) : am_run (d + 1) 19 [.ref 3] (am_hp n μ ν) = some (some (.int (nI (if lgI w < 18 then 128 + lgI w else 2))), am_hp n μ ν) := by
  refine am_r19 (d := d + 0) (Nat.le_of_ble_eq_true rfl) [some (.ref 3), none] rfl ?_
  refine am_q_iconst (v := nI 0) rfl rfl ?_
  refine am_q_istore_n [some _, some _] rfl (Nat.le_of_ble_eq_true rfl) rfl ?_
  exact s_wtL d n w μ ν hL hw h6 18 0 (by omega) (fun r hr => by omega)
