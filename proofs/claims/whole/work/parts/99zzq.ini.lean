theorem am_tst : (match am_start with
  | some r => decide (r.2.2.2.2.2.2.1 3 1 = nI 0)
  | none => false) = true := by decide +kernel