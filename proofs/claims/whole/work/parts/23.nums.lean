/-! small numbers -/
theorem sn_shl1 {s : Nat} (h : s < 31) : nI 1 <<< (nI s &&& 31) = nI (2 ^ s) := by
  have e : ∀ s : Fin 31, nI 1 <<< (nI s.val &&& 31) = nI (2 ^ s.val) := by decide +kernel
  exact e ⟨s, h⟩
theorem sn_eq {a b : Nat} (ha : a < 2 ^ 31) (hb : b < 2 ^ 31) : nI a = nI b ↔ a = b := nI_eq ha hb
theorem sn_and (a b : Nat) : nI a &&& nI b = nI (a &&& b) := fa_and a b
theorem sn_or (a b : Nat) : nI a ||| nI b = nI (a ||| b) := fa_or a b
theorem sn_shr {a s : Nat} (ha : a < 2 ^ 31) (hs : s < 31) : nI a >>> (nI s &&& 31) = nI (a / 2 ^ s) := by
  have e : ∀ s : Fin 31, ((nI s.val &&& 31).toBitVec.smod 32).toNat = s.val := by decide +kernel
  exact pk_shrN ha _ s (e ⟨s, hs⟩)
theorem sn_bit {a s : Nat} (ha : a < 2 ^ 31) (hs : s < 31) : ((nI a >>> (nI s &&& 31)) &&& nI 1 = 0) ↔ a.testBit s = false := by
  rw [sn_shr ha hs, sn_and, show (0 : Int32) = nI 0 from rfl, sn_eq (Nat.lt_of_le_of_lt Nat.and_le_right (by decide)) (by decide), Nat.testBit, Nat.shiftRight_eq_div_pow, Nat.and_comm]
  simp
/-- (spots of at most 8 places, sets of at most 6 souls) -/
theorem sn_not : ∀ a, a < 64 → ∀ b, b < 64 → (nI a &&& (nI b ^^^ -1) = 0 ↔ a &&& b = a) := by decide +kernel
def sn_pop : Nat → Nat → Nat
  | 0, _ => 0
  | n + 1, a => a % 2 + sn_pop n (a / 2)
def sn_bc (a : Nat) : Nat := sn_pop 10 a
def sn_bcE (x : Int32) : Int32 :=
  let u (x : Int32) (k : Int32) : Int32 := (x.toUInt32 >>> (k.toUInt32 &&& Int32.toUInt32 31)).toInt32
  let a := x - (u x (nI 1) &&& nI 1431655765)
  let b := (a &&& nI 858993459) + (u a (nI 2) &&& nI 858993459)
  let c := (b + u b (nI 4)) &&& nI 252645135
  let e := c + u c (nI 8)
  let f := e + u e (nI 16)
  f &&& nI 63
theorem sn_bc_ok : ∀ a, a < 1024 → sn_bcE (nI a) = nI (sn_bc a) := by decide +kernel
/-- a boolean as an int -/
def sB (b : Bool) : Int32 := bif b then nI 1 else nI 0
theorem sB_ok (b : Bool) : am_iok .boolean (sB b) = true := by cases b <;> rfl
theorem sB_0 {b : Bool} : sB b = 0 ↔ b = false := by cases b <;> decide
theorem sB_if {c : Prop} [Decidable c] : (if c then nI 1 else nI 0) = sB (decide c) := by by_cases h : c <;> simp [h, sB]
section SBQ
variable {d : Nat} {rt : Option FieldType} {cd : Nat → Option am_I} {pc nx r1 r2 r3 ps : Nat} {L : am_L} {st : List Value} {h : am_H} {Q : am_R → Prop} {cst : Value}
theorem am_q_if_eqB {off : Int} {b : Bool} (hE : cd pc = some (.ifCond .eq off, nx, r1, r2, r3, ps, cst)) (kt : b = false → am_w d rt cd r1 L st h Q) (kf : b = true → am_w d rt cd nx L st h Q) : am_w d rt cd pc L (.int (sB b) :: st) h Q :=
  am_q_if_eq hE (fun z => kt (sB_0.mp z)) (fun z => kf (by cases b with
    | false => exact absurd (sB_0.mpr rfl) z
    | true => rfl))
theorem am_q_if_neB {off : Int} {b : Bool} (hE : cd pc = some (.ifCond .ne off, nx, r1, r2, r3, ps, cst)) (kt : b = true → am_w d rt cd r1 L st h Q) (kf : b = false → am_w d rt cd nx L st h Q) : am_w d rt cd pc L (.int (sB b) :: st) h Q :=
  am_q_if_ne hE (fun z => kt (by cases b with
    | false => exact absurd (sB_0.mpr rfl) z
    | true => rfl)) (fun z => kf (sB_0.mp z))
/-- two small numbers compared -/
theorem am_q_ieqN {off : Int} {x y : Nat} (hE : cd pc = some (.if_icmp .eq off, nx, r1, r2, r3, ps, cst)) (hx : x < 2 ^ 31) (hy : y < 2 ^ 31) (kt : x = y → am_w d rt cd r1 L st h Q) (kf : ¬ x = y → am_w d rt cd nx L st h Q) : am_w d rt cd pc L (.int (nI y) :: .int (nI x) :: st) h Q :=
  am_q_icmp_eq hE (fun z => kt ((nI_eq hx hy).mp z)) (fun z => kf (fun e => z ((nI_eq hx hy).mpr e)))
theorem am_q_ineN {off : Int} {x y : Nat} (hE : cd pc = some (.if_icmp .ne off, nx, r1, r2, r3, ps, cst)) (hx : x < 2 ^ 31) (hy : y < 2 ^ 31) (kt : ¬ x = y → am_w d rt cd r1 L st h Q) (kf : x = y → am_w d rt cd nx L st h Q) : am_w d rt cd pc L (.int (nI y) :: .int (nI x) :: st) h Q :=
  am_q_icmp_ne hE (fun z => kt (fun e => z ((nI_eq hx hy).mpr e))) (fun z => kf ((nI_eq hx hy).mp z))
theorem am_q_iltN {off : Int} {x y : Nat} (hE : cd pc = some (.if_icmp .lt off, nx, r1, r2, r3, ps, cst)) (hx : x < 2 ^ 31) (hy : y < 2 ^ 31) (kt : x < y → am_w d rt cd r1 L st h Q) (kf : y ≤ x → am_w d rt cd nx L st h Q) : am_w d rt cd pc L (.int (nI y) :: .int (nI x) :: st) h Q :=
  am_q_icmp_lt hE (fun z => kt ((nI_ltI hx hy).mp z)) (fun z => kf (Nat.not_lt.mp fun e => z ((nI_ltI hx hy).mpr e)))
theorem am_q_igeN {off : Int} {x y : Nat} (hE : cd pc = some (.if_icmp .ge off, nx, r1, r2, r3, ps, cst)) (hx : x < 2 ^ 31) (hy : y < 2 ^ 31) (kt : y ≤ x → am_w d rt cd r1 L st h Q) (kf : x < y → am_w d rt cd nx L st h Q) : am_w d rt cd pc L (.int (nI y) :: .int (nI x) :: st) h Q :=
  am_q_icmp_ge hE (fun z => kt ((nI_leI hy hx).mp z)) (fun z => kf (Nat.not_le.mp fun e => z ((nI_leI hy hx).mpr e)))
theorem am_q_igtN {off : Int} {x y : Nat} (hE : cd pc = some (.if_icmp .gt off, nx, r1, r2, r3, ps, cst)) (hx : x < 2 ^ 31) (hy : y < 2 ^ 31) (kt : y < x → am_w d rt cd r1 L st h Q) (kf : x ≤ y → am_w d rt cd nx L st h Q) : am_w d rt cd pc L (.int (nI y) :: .int (nI x) :: st) h Q :=
  am_q_icmp_gt hE (fun z => kt ((nI_ltI hy hx).mp z)) (fun z => kf (Nat.not_lt.mp fun e => z ((nI_ltI hy hx).mpr e)))
theorem am_q_ileN {off : Int} {x y : Nat} (hE : cd pc = some (.if_icmp .le off, nx, r1, r2, r3, ps, cst)) (hx : x < 2 ^ 31) (hy : y < 2 ^ 31) (kt : x ≤ y → am_w d rt cd r1 L st h Q) (kf : y < x → am_w d rt cd nx L st h Q) : am_w d rt cd pc L (.int (nI y) :: .int (nI x) :: st) h Q :=
  am_q_icmp_le hE (fun z => kt ((nI_leI hx hy).mp z)) (fun z => kf (Nat.not_le.mp fun e => z ((nI_leI hx hy).mpr e)))
end SBQ
/-- a number that may be none -/
theorem sn_ix (s : Int32) {N : Nat} (hN : N < 2 ^ 31) : (am_ix s N = none ∧ (s < 0 ∨ (0 ≤ s ∧ nI N ≤ s))) ∨ ∃ k, k < N ∧ s = nI k ∧ am_ix s N = some k := by
  by_cases h0 : s < 0
  · exact Or.inl ⟨by unfold am_ix; rw [if_neg (fun z => z (Or.inl h0))], Or.inl h0⟩
  · rcases pk_ix s hN with z | z | ⟨j, z1, z2⟩
    · exact absurd z h0
    · refine Or.inl ⟨?_, Or.inr ⟨fa_of_nlt h0, z⟩⟩
      unfold am_ix
      rw [if_neg]
      intro q
      apply q
      right
      obtain ⟨j, hj, e⟩ := nI_of h0
      subst e
      rw [nI_clamp hj]
      exact (nI_leI hN hj).mp z
    · subst z2
      exact Or.inr ⟨j, z1, rfl, am_ix_nI z1 hN⟩
theorem sn_0le {k : Nat} (h : k < 2 ^ 31) : (0 : Int32) ≤ nI k := nI_pos' h
theorem sn_n0 {k : Nat} (h : k < 2 ^ 31) : ¬ nI k < 0 := nI_pos h
theorem sn_ix_in {s : Int32} {N k : Nat} (h : am_ix s N = some k) (hN : N < 2 ^ 31) : k < N ∧ s = nI k := by
  rcases sn_ix s hN with ⟨z, -⟩ | ⟨j, z1, z2, z3⟩
  · rw [z] at h; cases h
  · rw [z3] at h; cases h; exact ⟨z1, z2⟩
theorem sn_ix_out {s : Int32} {N : Nat} (h : am_ix s N = none) (hN : N < 2 ^ 31) : s < 0 ∨ (0 ≤ s ∧ nI N ≤ s) := by
  rcases sn_ix s hN with ⟨-, z⟩ | ⟨j, z1, z2, z3⟩
  · exact z
  · rw [z3] at h; cases h
