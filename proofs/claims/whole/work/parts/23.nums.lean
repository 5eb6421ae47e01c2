/-! small numbers -/
theorem sn_shl1 {s : Nat} (h : s < 31) : nI 1 <<< (nI s &&& 31) = nI (2 ^ s) := by
  have e : ∀ s : Fin 31, nI 1 <<< (nI s.val &&& 31) = nI (2 ^ s.val) := by decide +kernel
  exact e ⟨s, h⟩
theorem sn_eq {a b : Nat} (ha : a < 2 ^ 31) (hb : b < 2 ^ 31) : nI a = nI b ↔ a = b := nI_eq ha hb
theorem sn_and (a b : Nat) : nI a &&& nI b = nI (a &&& b) := fa_and a b
theorem sn_or (a b : Nat) : nI a ||| nI b = nI (a ||| b) := fa_or a b
theorem sn_shr {a s : Nat} (ha : a < 2 ^ 31) (hs : s < 31) : nI a >>> (nI s &&& 31) = nI (a / 2 ^ s) := by
  have e : ∀ s : Fin 31, ((nI s.val &&& 31).toBitVec.smod 32).toNat = s.val := by decide +kernel
  exact pk_shrN ha _ s (e ⟨s, hs⟩)
theorem sn_bit {a s : Nat} (ha : a < 2 ^ 31) (hs : s < 31) : ((nI a >>> (nI s &&& 31)) &&& nI 1 = 0) ↔ a.testBit s = false := by
  rw [sn_shr ha hs, sn_and, show (0 : Int32) = nI 0 from rfl, sn_eq (Nat.lt_of_le_of_lt Nat.and_le_right (by decide)) (by decide), Nat.testBit, Nat.shiftRight_eq_div_pow, Nat.and_comm]
  simp
/-- (spots of at most 8 places, sets of at most 6 souls) -/
theorem sn_not : ∀ a, a < 64 → ∀ b, b < 64 → (nI a &&& (nI b ^^^ -1) = 0 ↔ a &&& b = a) := by decide +kernel
def sn_pop : Nat → Nat → Nat
  | 0, _ => 0
  | n + 1, a => a % 2 + sn_pop n (a / 2)
def sn_bc (a : Nat) : Nat := sn_pop 10 a
def sn_bcE (x : Int32) : Int32 :=
  let u (x : Int32) (k : Int32) : Int32 := (x.toUInt32 >>> (k.toUInt32 &&& Int32.toUInt32 31)).toInt32
  let a := x - (u x (nI 1) &&& nI 1431655765)
  let b := (a &&& nI 858993459) + (u a (nI 2) &&& nI 858993459)
  let c := (b + u b (nI 4)) &&& nI 252645135
  let e := c + u c (nI 8)
  let f := e + u e (nI 16)
  f &&& nI 63
theorem sn_bc_ok : ∀ a, a < 1024 → sn_bcE (nI a) = nI (sn_bc a) := by decide +kernel
