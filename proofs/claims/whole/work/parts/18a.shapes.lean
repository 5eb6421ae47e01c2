/-- the cells as they are behind the constructors: 0 is the script (of n ints), 1 is LANGUAGE -/
def am_S0 (n i : Nat) : Option am_Sh := bif Nat.blt i 152 then (bif Nat.blt i 76 then (bif Nat.blt i 38 then (bif Nat.blt i 19 then (bif Nat.blt i 9 then (bif Nat.blt i 4 then (bif Nat.blt i 2 then (bif Nat.blt i 1 then some (.inl (.int, false, n, fun _ => none)) else some (.inl (.long, false, 18, fun _ => none))) else (bif Nat.blt i 3 then some (.inr (10, [.inl (some 3), .inl (some 5), .inl (some 16), .inl (some 27), .inl (some 31), .inl (some 35), .inl (some 38), .inl (some 41), .inl (some 117), .inl (some 120), .inl (some 125), .inl (some 130), .inl (some 132)])) else some (.inr (5, [.inl (some 4), .inr true, .inr true, .inr true, .inr true, .inr true, .inr false, .inr true])))) else (bif Nat.blt i 6 then (bif Nat.blt i 5 then some (.inl (.char, true, 1000, fun _ => none)) else some (.inr (6, [.inl (some 6), .inl (some 7), .inl (some 8), .inl (some 9), .inl (some 10), .inl (some 11), .inl (some 12), .inl (some 13), .inr true, .inr true, .inr true, .inr true, .inr true]))) else (bif Nat.blt i 7 then some (.inl (.long, true, 6, fun _ => none)) else (bif Nat.blt i 8 then some (.inl (.int, true, 6, fun _ => none)) else some (.inl (.int, true, 6, fun _ => none)))))) else (bif Nat.blt i 14 then (bif Nat.blt i 11 then (bif Nat.blt i 10 then some (.inl (.int, true, 6, fun _ => none)) else some (.inl (.int, true, 6, fun _ => none))) else (bif Nat.blt i 12 then some (.inl (.int, true, 6, fun _ => none)) else (bif Nat.blt i 13 then some (.inl (.int, true, 12, fun _ => none)) else some (.inr (2, [.inl (some 14), .inl (some 15), .inr true]))))) else (bif Nat.blt i 16 then (bif Nat.blt i 15 then some (.inl (.int, true, 1000, fun _ => none)) else some (.inl (.int, true, 32, fun _ => none))) else (bif Nat.blt i 17 then some (.inr (6, [.inl (some 17), .inl (some 18), .inl (some 19), .inl (some 20), .inl (some 21), .inl (some 22), .inl (some 23), .inl (some 24), .inr true, .inr true, .inr true, .inr true, .inr true])) else (bif Nat.blt i 18 then some (.inl (.long, true, 6, fun _ => none)) else some (.inl (.int, true, 6, fun _ => none))))))) else (bif Nat.blt i 28 then (bif Nat.blt i 23 then (bif Nat.blt i 21 then (bif Nat.blt i 20 then some (.inl (.int, true, 6, fun _ => none)) else some (.inl (.int, true, 6, fun _ => none))) else (bif Nat.blt i 22 then some (.inl (.int, true, 6, fun _ => none)) else some (.inl (.int, true, 6, fun _ => none)))) else (bif Nat.blt i 25 then (bif Nat.blt i 24 then some (.inl (.int, true, 12, fun _ => none)) else some (.inr (2, [.inl (some 25), .inl (some 26), .inr true]))) else (bif Nat.blt i 26 then some (.inl (.int, true, 1000, fun _ => none)) else (bif Nat.blt i 27 then some (.inl (.int, true, 32, fun _ => none)) else some (.inr (9, [.inl (some 28), .inl (some 29), .inl (some 30), .inr true])))))) else (bif Nat.blt i 33 then (bif Nat.blt i 30 then (bif Nat.blt i 29 then some (.inl (.int, true, 40, fun _ => none)) else some (.inl (.int, true, 40, fun _ => none))) else (bif Nat.blt i 31 then some (.inl (.int, true, 40, fun _ => none)) else (bif Nat.blt i 32 then some (.inr (9, [.inl (some 32), .inl (some 33), .inl (some 34), .inr true])) else some (.inl (.int, true, 40, fun _ => none))))) else (bif Nat.blt i 35 then (bif Nat.blt i 34 then some (.inl (.int, true, 40, fun _ => none)) else some (.inl (.int, true, 40, fun _ => none))) else (bif Nat.blt i 36 then some (.inr (7, [.inl (some 5), .inl (some 36), .inl (some 37), .inr true])) else (bif Nat.blt i 37 then some (.inl (.int, true, 6, fun _ => none)) else some (.inl (.int, true, 6, fun _ => none)))))))) else (bif Nat.blt i 57 then (bif Nat.blt i 47 then (bif Nat.blt i 42 then (bif Nat.blt i 40 then (bif Nat.blt i 39 then some (.inr (7, [.inl (some 5), .inl (some 39), .inl (some 40), .inr true])) else some (.inl (.int, true, 6, fun _ => none))) else (bif Nat.blt i 41 then some (.inl (.int, true, 6, fun _ => none)) else some (.inr (3, [.inl (some 42), .inl (some 43), .inl (some 44), .inr true, .inr true, .inr true])))) else (bif Nat.blt i 44 then (bif Nat.blt i 43 then some (.inl (.object "StoneSecrets$Wall", true, 16, fun j => some (45 + 3 * j))) else some (.inl (.object "StoneSecrets$Wall", true, 4, fun j => some (93 + 6 * j)))) else (bif Nat.blt i 45 then some (.inl (.object "StoneSecrets$Seen", true, 4, fun j => some (96 + 6 * j))) else (bif Nat.blt i 46 then some (.inr (7, [.inl (some 5), .inl (some 46), .inl (some 47), .inr true])) else some (.inl (.int, true, 6, fun _ => none)))))) else (bif Nat.blt i 52 then (bif Nat.blt i 49 then (bif Nat.blt i 48 then some (.inl (.int, true, 6, fun _ => none)) else some (.inr (7, [.inl (some 5), .inl (some 49), .inl (some 50), .inr true]))) else (bif Nat.blt i 50 then some (.inl (.int, true, 6, fun _ => none)) else (bif Nat.blt i 51 then some (.inl (.int, true, 6, fun _ => none)) else some (.inr (7, [.inl (some 5), .inl (some 52), .inl (some 53), .inr true]))))) else (bif Nat.blt i 54 then (bif Nat.blt i 53 then some (.inl (.int, true, 6, fun _ => none)) else some (.inl (.int, true, 6, fun _ => none))) else (bif Nat.blt i 55 then some (.inr (7, [.inl (some 5), .inl (some 55), .inl (some 56), .inr true])) else (bif Nat.blt i 56 then some (.inl (.int, true, 6, fun _ => none)) else some (.inl (.int, true, 6, fun _ => none))))))) else (bif Nat.blt i 66 then (bif Nat.blt i 61 then (bif Nat.blt i 59 then (bif Nat.blt i 58 then some (.inr (7, [.inl (some 5), .inl (some 58), .inl (some 59), .inr true])) else some (.inl (.int, true, 6, fun _ => none))) else (bif Nat.blt i 60 then some (.inl (.int, true, 6, fun _ => none)) else some (.inr (7, [.inl (some 5), .inl (some 61), .inl (some 62), .inr true])))) else (bif Nat.blt i 63 then (bif Nat.blt i 62 then some (.inl (.int, true, 6, fun _ => none)) else some (.inl (.int, true, 6, fun _ => none))) else (bif Nat.blt i 64 then some (.inr (7, [.inl (some 5), .inl (some 64), .inl (some 65), .inr true])) else (bif Nat.blt i 65 then some (.inl (.int, true, 6, fun _ => none)) else some (.inl (.int, true, 6, fun _ => none)))))) else (bif Nat.blt i 71 then (bif Nat.blt i 68 then (bif Nat.blt i 67 then some (.inr (7, [.inl (some 5), .inl (some 67), .inl (some 68), .inr true])) else some (.inl (.int, true, 6, fun _ => none))) else (bif Nat.blt i 69 then some (.inl (.int, true, 6, fun _ => none)) else (bif Nat.blt i 70 then some (.inr (7, [.inl (some 5), .inl (some 70), .inl (some 71), .inr true])) else some (.inl (.int, true, 6, fun _ => none))))) else (bif Nat.blt i 73 then (bif Nat.blt i 72 then some (.inl (.int, true, 6, fun _ => none)) else some (.inr (7, [.inl (some 5), .inl (some 73), .inl (some 74), .inr true]))) else (bif Nat.blt i 74 then some (.inl (.int, true, 6, fun _ => none)) else (bif Nat.blt i 75 then some (.inl (.int, true, 6, fun _ => none)) else some (.inr (7, [.inl (some 5), .inl (some 76), .inl (some 77), .inr true]))))))))) else (bif Nat.blt i 114 then (bif Nat.blt i 95 then (bif Nat.blt i 85 then (bif Nat.blt i 80 then (bif Nat.blt i 78 then (bif Nat.blt i 77 then some (.inl (.int, true, 6, fun _ => none)) else some (.inl (.int, true, 6, fun _ => none))) else (bif Nat.blt i 79 then some (.inr (7, [.inl (some 5), .inl (some 79), .inl (some 80), .inr true])) else some (.inl (.int, true, 6, fun _ => none)))) else (bif Nat.blt i 82 then (bif Nat.blt i 81 then some (.inl (.int, true, 6, fun _ => none)) else some (.inr (7, [.inl (some 5), .inl (some 82), .inl (some 83), .inr true]))) else (bif Nat.blt i 83 then some (.inl (.int, true, 6, fun _ => none)) else (bif Nat.blt i 84 then some (.inl (.int, true, 6, fun _ => none)) else some (.inr (7, [.inl (some 5), .inl (some 85), .inl (some 86), .inr true])))))) else (bif Nat.blt i 90 then (bif Nat.blt i 87 then (bif Nat.blt i 86 then some (.inl (.int, true, 6, fun _ => none)) else some (.inl (.int, true, 6, fun _ => none))) else (bif Nat.blt i 88 then some (.inr (7, [.inl (some 5), .inl (some 88), .inl (some 89), .inr true])) else (bif Nat.blt i 89 then some (.inl (.int, true, 6, fun _ => none)) else some (.inl (.int, true, 6, fun _ => none))))) else (bif Nat.blt i 92 then (bif Nat.blt i 91 then some (.inr (7, [.inl (some 5), .inl (some 91), .inl (some 92), .inr true])) else some (.inl (.int, true, 6, fun _ => none))) else (bif Nat.blt i 93 then some (.inl (.int, true, 6, fun _ => none)) else (bif Nat.blt i 94 then some (.inr (7, [.inl (some 5), .inl (some 94), .inl (some 95), .inr true])) else some (.inl (.int, true, 6, fun _ => none))))))) else (bif Nat.blt i 104 then (bif Nat.blt i 99 then (bif Nat.blt i 97 then (bif Nat.blt i 96 then some (.inl (.int, true, 6, fun _ => none)) else some (.inr (4, [.inl (some 97), .inl (some 98), .inr true, .inr true]))) else (bif Nat.blt i 98 then some (.inl (.int, true, 8, fun _ => none)) else some (.inl (.int, true, 8, fun _ => none)))) else (bif Nat.blt i 101 then (bif Nat.blt i 100 then some (.inr (7, [.inl (some 5), .inl (some 100), .inl (some 101), .inr true])) else some (.inl (.int, true, 6, fun _ => none))) else (bif Nat.blt i 102 then some (.inl (.int, true, 6, fun _ => none)) else (bif Nat.blt i 103 then some (.inr (4, [.inl (some 103), .inl (some 104), .inr true, .inr true])) else some (.inl (.int, true, 8, fun _ => none)))))) else (bif Nat.blt i 109 then (bif Nat.blt i 106 then (bif Nat.blt i 105 then some (.inl (.int, true, 8, fun _ => none)) else some (.inr (7, [.inl (some 5), .inl (some 106), .inl (some 107), .inr true]))) else (bif Nat.blt i 107 then some (.inl (.int, true, 6, fun _ => none)) else (bif Nat.blt i 108 then some (.inl (.int, true, 6, fun _ => none)) else some (.inr (4, [.inl (some 109), .inl (some 110), .inr true, .inr true]))))) else (bif Nat.blt i 111 then (bif Nat.blt i 110 then some (.inl (.int, true, 8, fun _ => none)) else some (.inl (.int, true, 8, fun _ => none))) else (bif Nat.blt i 112 then some (.inr (7, [.inl (some 5), .inl (some 112), .inl (some 113), .inr true])) else (bif Nat.blt i 113 then some (.inl (.int, true, 6, fun _ => none)) else some (.inl (.int, true, 6, fun _ => none)))))))) else (bif Nat.blt i 133 then (bif Nat.blt i 123 then (bif Nat.blt i 118 then (bif Nat.blt i 116 then (bif Nat.blt i 115 then some (.inr (4, [.inl (some 115), .inl (some 116), .inr true, .inr true])) else some (.inl (.int, true, 8, fun _ => none))) else (bif Nat.blt i 117 then some (.inl (.int, true, 8, fun _ => none)) else some (.inr (4, [.inl (some 118), .inl (some 119), .inr true, .inr true])))) else (bif Nat.blt i 120 then (bif Nat.blt i 119 then some (.inl (.int, true, 8, fun _ => none)) else some (.inl (.int, true, 8, fun _ => none))) else (bif Nat.blt i 121 then some (.inr (8, [.inl (some 5), .inl (some 121), .inl (some 122), .inl (some 123), .inl (some 124), .inr true, .inr true])) else (bif Nat.blt i 122 then some (.inl (.int, true, 6, fun _ => none)) else some (.inl (.int, true, 6, fun _ => none)))))) else (bif Nat.blt i 128 then (bif Nat.blt i 125 then (bif Nat.blt i 124 then some (.inl (.int, true, 6, fun _ => none)) else some (.inl (.int, true, 8, fun _ => none))) else (bif Nat.blt i 126 then some (.inr (1, [.inl (some 5), .inl (some 126), .inl (some 127), .inl (some 128), .inl (some 129), .inr true])) else (bif Nat.blt i 127 then some (.inl (.int, true, 1098, fun _ => none)) else some (.inl (.int, true, 6, fun _ => none))))) else (bif Nat.blt i 130 then (bif Nat.blt i 129 then some (.inl (.int, true, 6, fun _ => none)) else some (.inl (.int, true, 6, fun _ => none))) else (bif Nat.blt i 131 then some (.inr (0, [.inl (some 5), .inl (some 131)])) else (bif Nat.blt i 132 then some (.inl (.int, true, 6, fun _ => none)) else some (.inl (.int, true, 512, fun _ => none))))))) else (bif Nat.blt i 142 then (bif Nat.blt i 137 then (bif Nat.blt i 135 then (bif Nat.blt i 134 then some (.inr (11, [.inr true, .inl (some 134), .inr true, .inr true, .inl (some 135), .inl (some 136), .inl (some 137), .inr true, .inr true, .inl (some 138), .inl (some 139), .inl (some 140), .inr true, .inl (some 141), .inl (some 142), .inl (some 143), .inl (some 144), .inl (some 145), .inr true, .inl (some 146), .inr true, .inr true, .inr true, .inr true, .inr true, .inr true, .inr true, .inr true, .inl (some 147), .inl (some 148), .inl (some 149), .inl (some 150), .inr false])) else some (.inl (.int, true, 1000, fun _ => none))) else (bif Nat.blt i 136 then some (.inl (.int, true, 1002, fun _ => none)) else some (.inl (.int, true, 1002, fun _ => none)))) else (bif Nat.blt i 139 then (bif Nat.blt i 138 then some (.inl (.long, true, 1002, fun _ => none)) else some (.inl (.long, true, 22, fun _ => none))) else (bif Nat.blt i 140 then some (.inl (.int, true, 100, fun _ => none)) else (bif Nat.blt i 141 then some (.inl (.int, true, 2200, fun _ => none)) else some (.inl (.long, true, 12, fun _ => none)))))) else (bif Nat.blt i 147 then (bif Nat.blt i 144 then (bif Nat.blt i 143 then some (.inl (.int, true, 250, fun _ => none)) else some (.inl (.int, true, 4, fun _ => none))) else (bif Nat.blt i 145 then some (.inl (.int, true, 64, fun _ => none)) else (bif Nat.blt i 146 then some (.inl (.int, true, 836, fun _ => none)) else some (.inl (.boolean, true, 4, fun _ => none))))) else (bif Nat.blt i 149 then (bif Nat.blt i 148 then some (.inl (.int, true, 48, fun _ => none)) else some (.inl (.int, true, 6, fun _ => none))) else (bif Nat.blt i 150 then some (.inl (.int, true, 336, fun _ => none)) else (bif Nat.blt i 151 then some (.inl (.int, true, 6, fun _ => none)) else some (.inl (.long, true, 1, fun _ => none)))))))))) else none
abbrev am_gl : Nat → Option am_I := am_cut 1557 am_dl
/-- the same machine, to be run by the kernel: at most 4000 instructions a call -/
def am_rc : Nat → am_B
  | 0 => fun _ _ _ => none
  | d + 1 => fun k vs h => match am_nm[k]?, am_cd[k]? with
    | some Y, some q => if (am_en vs).length ≤ Y.2.2.1 then am_ex (am_rc d) Y.2.2.2.1 (am_cut q.1 q.2) 4000 0 (am_en0 vs Y.2.2.1) [] h else none
    | _, _ => none
def am_stn (cal : am_B) (rt : Option FieldType) (cd : Nat → Option am_I) : Nat → Nat → am_L → List Value → am_H → Option (Nat × am_L × List Value × am_H)
  | 0, pc, L, st, h => some (pc, L, st, h)
  | n + 1, pc, L, st, h => match cd pc with
    | none => none
    | some E => match am_step cal rt pc E L st h with
      | some (.inl (pc', L', st', h')) => am_stn cal rt cd n pc' L' st' h'
      | _ => none
/-- one oracle knows all that another one knows -/
def am_sub (c1 c2 : am_B) : Prop := ∀ k vs h r, c1 k vs h = some r → c2 k vs h = some r
theorem am_call_sub {c1 c2 : am_B} (hc : am_sub c1 c2) {k n nx : Nat} {L : am_L} {st : List Value} {h : am_H} {o : am_O} (hs : am_call c1 k n L nx st h = some o) : am_call c2 k n L nx st h = some o := by
  unfold am_call at hs ⊢
  split at hs
  · rename_i hcs
    rw [if_pos hcs]
    split at hs
    · rename_i v h1 hq
      rw [hc _ _ _ _ hq]
      exact hs
    · cases hs
  · cases hs
theorem am_step_sub {c1 c2 : am_B} (hc : am_sub c1 c2) {rt : Option FieldType} {pc : Nat} {E : am_I} {L : am_L} {st : List Value} {h : am_H} {o : am_O} (hs : am_step c1 rt pc E L st h = some o) : am_step c2 rt pc E L st h = some o := by
  obtain ⟨ins, nx, r1, r2, r3, pos, cst⟩ := E
  cases ins with
  | invokevirtual i =>
    simp only [am_step] at hs ⊢
    split at hs
    · split at hs
      · rename_i hrv
        rw [if_pos hrv]
        exact am_call_sub hc hs
      · cases hs
    · cases hs
  | invokespecial i =>
    simp only [am_step] at hs ⊢
    split at hs
    · rename_i h6
      rw [if_pos h6]
      exact hs
    · rename_i h6
      rw [if_neg h6]
      split at hs
      · rename_i hrv
        rw [if_pos hrv]
        exact am_call_sub hc hs
      · cases hs
  | invokestatic i =>
    simp only [am_step] at hs ⊢
    split at hs
    · rename_i h6
      rw [if_pos h6]
      exact hs
    · rename_i h6
      rw [if_neg h6]
      split at hs
      · rename_i hrv
        rw [if_pos hrv]
        exact am_call_sub hc hs
      · cases hs
  | _ => exact hs
theorem am_ex_sub {c1 c2 : am_B} (hc : am_sub c1 c2) {rt : Option FieldType} {cd : Nat → Option am_I} : ∀ (n pc : Nat) (L : am_L) (st : List Value) (h : am_H) (r : am_R), am_ex c1 rt cd n pc L st h = some r → am_ex c2 rt cd n pc L st h = some r := by
  intro n
  induction n with
  | zero => intro pc L st h r hs; cases hs
  | succ n ih =>
    intro pc L st h r hs
    unfold am_ex at hs ⊢
    split at hs
    · cases hs
    · rename_i E hE
      split at hs
      · cases hs
      · rename_i pc1 L1 st1 h1 hstep
        rw [am_step_sub hc hstep]
        exact ih _ _ _ _ _ hs
      · rename_i q hstep
        rw [am_step_sub hc hstep]
        exact hs
theorem am_rc_sub : ∀ d, am_sub (am_rc d) (am_run d) := by
  intro d
  induction d with
  | zero => intro k vs h r hs; cases hs
  | succ d ih =>
    intro k vs h r hs
    unfold am_rc at hs
    split at hs
    · rename_i Y q hY hq
      split at hs
      · rename_i hl
        exact am_run_of hY hq hl (am_ex_sub ih _ _ _ _ _ _ hs)
      · cases hs
    · cases hs
theorem am_stn_sub {c1 c2 : am_B} (hc : am_sub c1 c2) {rt : Option FieldType} {cd : Nat → Option am_I} : ∀ (n pc : Nat) (L : am_L) (st : List Value) (h : am_H) (r : Nat × am_L × List Value × am_H), am_stn c1 rt cd n pc L st h = some r → am_stn c2 rt cd n pc L st h = some r := by
  intro n
  induction n with
  | zero => intro pc L st h r hs; exact hs
  | succ n ih =>
    intro pc L st h r hs
    unfold am_stn at hs ⊢
    split at hs
    · cases hs
    · rename_i E hE
      split at hs
      · rename_i pc1 L1 st1 h1 hstep
        rw [am_step_sub hc hstep]
        exact ih _ _ _ _ _ hs
      · cases hs
