def am_h0 : am_H := (2, 0, fun _ => none, fun _ _ => 0, fun _ _ => 0)
def am_L0 : am_L := [some (.ref 0), none, none, none, none, none, none]
def am_same (a b : Option am_Sh) : Bool := match a, b with
  | some (.inr (c, k)), some (.inr (c', k')) => Nat.beq c c' && decide (k = k')
  | some (.inl (t, w, n, f)), some (.inl (t', w', n', f')) => decide (t = t') && (w == w') && Nat.beq n n' && (match t with
    | .object _ => (List.range n).all fun j => decide (f j = f' j)
    | _ => true)
  | none, none => true
  | _, _ => false
def am_start : Option (Nat × am_L × List Value × am_H) := am_stn (am_rc 8) (some .boolean) am_gl 13 0 am_L0 [] am_h0
def am_chk0 (r : Nat × am_L × List Value × am_H) : Bool := Nat.beq r.1 23 && decide (r.2.1 = [some (.ref 0), some (.ref 2), some (.ref 133), some (.ref 151), some (.int 0), none, none]) && decide (r.2.2.1 = []) && Nat.beq r.2.2.2.1 152 && Nat.beq r.2.2.2.2.1 13546
theorem am_start_1 : (match am_start with
  | some r => am_chk0 r
  | none => false) = true := by decide +kernel
theorem am_start_2 : (match am_start with
  | some r => (List.range 150).all fun j => am_same (r.2.2.2.2.2.1 (j + 2)) (am_S0 0 (j + 2))
  | none => false) = true := by decide +kernel
