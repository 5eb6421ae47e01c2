def am_dx (pc : Nat) : Option am_I := (bif Nat.blt pc 81 then (bif Nat.blt pc 49 then (bif Nat.blt pc 23 then (bif Nat.blt pc 11 then (bif Nat.blt pc 4 then (bif Nat.blt pc 1 then (if pc = 0 then some (.iload_n 1, 1, 0, 0, 0, 0, .null) else none) else (if pc = 1 then some (.invokestatic 327, 4, 175, 1, 4, 0, .null) else none)) else (bif Nat.blt pc 7 then (if pc = 4 then some (.ifCond .eq 23, 7, 27, 0, 0, 0, .null) else none) else (bif Nat.blt pc 8 then (if pc = 7 then some (.iload_n 2, 8, 0, 0, 0, 0, .null) else none) else (if pc = 8 then some (.invokestatic 327, 11, 175, 1, 4, 0, .null) else none)))) else (bif Nat.blt pc 15 then (bif Nat.blt pc 14 then (if pc = 11 then some (.ifCond .eq 16, 14, 27, 0, 0, 0, .null) else none) else (if pc = 14 then some (.iload_n 3, 15, 0, 0, 0, 0, .null) else none)) else (bif Nat.blt pc 18 then (if pc = 15 then some (.invokestatic 327, 18, 175, 1, 4, 0, .null) else none) else (bif Nat.blt pc 21 then (if pc = 18 then some (.ifCond .eq 9, 21, 27, 0, 0, 0, .null) else none) else (if pc = 21 then some (.iload 4, 23, 0, 0, 0, 0, .null) else none))))) else (bif Nat.blt pc 39 then (bif Nat.blt pc 35 then (bif Nat.blt pc 24 then (if pc = 23 then some (.iconst (-1), 24, 0, 0, 0, 0, .int (-1)) else none) else (if pc = 24 then some (.if_icmp .ge 11, 27, 35, 0, 0, 0, .null) else none)) else (bif Nat.blt pc 36 then (if pc = 35 then some (.iconst 0, 36, 0, 0, 0, 0, .int 0) else none) else (bif Nat.blt pc 38 then (if pc = 36 then some (.istore 5, 38, 0, 0, 0, 0, .null) else none) else (if pc = 38 then some (.iconst 0, 39, 0, 0, 0, 0, .int 0) else none)))) else (bif Nat.blt pc 43 then (bif Nat.blt pc 41 then (if pc = 39 then some (.istore 6, 41, 0, 0, 0, 0, .null) else none) else (if pc = 41 then some (.iload 6, 43, 0, 0, 0, 0, .null) else none)) else (bif Nat.blt pc 44 then (if pc = 43 then some (.iconst 4, 44, 0, 0, 0, 0, .int 4) else none) else (bif Nat.blt pc 47 then (if pc = 44 then some (.if_icmp .ge 108, 47, 152, 0, 0, 0, .null) else none) else (if pc = 47 then some (.iload 6, 49, 0, 0, 0, 0, .null) else none)))))) else (bif Nat.blt pc 64 then (bif Nat.blt pc 56 then (bif Nat.blt pc 51 then (bif Nat.blt pc 50 then (if pc = 49 then some (.iconst 2, 50, 0, 0, 0, 0, .int 2) else none) else (if pc = 50 then some (.idiv, 51, 0, 0, 0, 0, .null) else none)) else (bif Nat.blt pc 53 then (if pc = 51 then some (.istore 7, 53, 0, 0, 0, 0, .null) else none) else (bif Nat.blt pc 55 then (if pc = 53 then some (.iload 6, 55, 0, 0, 0, 0, .null) else none) else (if pc = 55 then some (.iconst 2, 56, 0, 0, 0, 0, .int 2) else none)))) else (bif Nat.blt pc 59 then (bif Nat.blt pc 57 then (if pc = 56 then some (.irem, 57, 0, 0, 0, 0, .null) else none) else (if pc = 57 then some (.istore 8, 59, 0, 0, 0, 0, .null) else none)) else (bif Nat.blt pc 61 then (if pc = 59 then some (.iload 7, 61, 0, 0, 0, 0, .null) else none) else (bif Nat.blt pc 63 then (if pc = 61 then some (.iload 8, 63, 0, 0, 0, 0, .null) else none) else (if pc = 63 then some (.iload_n 1, 64, 0, 0, 0, 0, .null) else none))))) else (bif Nat.blt pc 72 then (bif Nat.blt pc 66 then (bif Nat.blt pc 65 then (if pc = 64 then some (.iload_n 2, 65, 0, 0, 0, 0, .null) else none) else (if pc = 65 then some (.iload_n 3, 66, 0, 0, 0, 0, .null) else none)) else (bif Nat.blt pc 69 then (if pc = 66 then some (.invokestatic 333, 69, 176, 5, 4, 0, .null) else none) else (bif Nat.blt pc 70 then (if pc = 69 then some (.iconst 1, 70, 0, 0, 0, 0, .int 1) else none) else (if pc = 70 then some (.iload 7, 72, 0, 0, 0, 0, .null) else none)))) else (bif Nat.blt pc 76 then (bif Nat.blt pc 73 then (if pc = 72 then some (.isub, 73, 0, 0, 0, 0, .null) else none) else (bif Nat.blt pc 75 then (if pc = 73 then some (.iload 8, 75, 0, 0, 0, 0, .null) else none) else (if pc = 75 then some (.iload_n 1, 76, 0, 0, 0, 0, .null) else none))) else (bif Nat.blt pc 77 then (if pc = 76 then some (.iload_n 2, 77, 0, 0, 0, 0, .null) else none) else (bif Nat.blt pc 78 then (if pc = 77 then some (.iload_n 3, 78, 0, 0, 0, 0, .null) else none) else (if pc = 78 then some (.invokestatic 333, 81, 176, 5, 4, 0, .null) else none))))))) else (bif Nat.blt pc 116 then (bif Nat.blt pc 98 then (bif Nat.blt pc 91 then (bif Nat.blt pc 85 then (bif Nat.blt pc 84 then (if pc = 81 then some (.if_icmp .lt 7, 84, 88, 0, 0, 0, .null) else none) else (if pc = 84 then some (.iconst 1, 85, 0, 0, 0, 0, .int 1) else none)) else (bif Nat.blt pc 88 then (if pc = 85 then some (.goto 4, 88, 89, 0, 0, 0, .null) else none) else (bif Nat.blt pc 89 then (if pc = 88 then some (.iconst 0, 89, 0, 0, 0, 0, .int 0) else none) else (if pc = 89 then some (.istore 9, 91, 0, 0, 0, 0, .null) else none)))) else (bif Nat.blt pc 95 then (bif Nat.blt pc 93 then (if pc = 91 then some (.iload 8, 93, 0, 0, 0, 0, .null) else none) else (if pc = 93 then some (.iload 7, 95, 0, 0, 0, 0, .null) else none)) else (bif Nat.blt pc 96 then (if pc = 95 then some (.iload_n 1, 96, 0, 0, 0, 0, .null) else none) else (bif Nat.blt pc 97 then (if pc = 96 then some (.iload_n 2, 97, 0, 0, 0, 0, .null) else none) else (if pc = 97 then some (.iload_n 3, 98, 0, 0, 0, 0, .null) else none))))) else (bif Nat.blt pc 107 then (bif Nat.blt pc 102 then (bif Nat.blt pc 101 then (if pc = 98 then some (.invokestatic 333, 101, 176, 5, 4, 0, .null) else none) else (if pc = 101 then some (.iconst 1, 102, 0, 0, 0, 0, .int 1) else none)) else (bif Nat.blt pc 104 then (if pc = 102 then some (.iload 8, 104, 0, 0, 0, 0, .null) else none) else (bif Nat.blt pc 105 then (if pc = 104 then some (.isub, 105, 0, 0, 0, 0, .null) else none) else (if pc = 105 then some (.iload 7, 107, 0, 0, 0, 0, .null) else none)))) else (bif Nat.blt pc 109 then (bif Nat.blt pc 108 then (if pc = 107 then some (.iload_n 1, 108, 0, 0, 0, 0, .null) else none) else (if pc = 108 then some (.iload_n 2, 109, 0, 0, 0, 0, .null) else none)) else (bif Nat.blt pc 110 then (if pc = 109 then some (.iload_n 3, 110, 0, 0, 0, 0, .null) else none) else (bif Nat.blt pc 113 then (if pc = 110 then some (.invokestatic 333, 113, 176, 5, 4, 0, .null) else none) else (if pc = 113 then some (.if_icmp .lt 7, 116, 120, 0, 0, 0, .null) else none)))))) else (bif Nat.blt pc 137 then (bif Nat.blt pc 125 then (bif Nat.blt pc 120 then (bif Nat.blt pc 117 then (if pc = 116 then some (.iconst 1, 117, 0, 0, 0, 0, .int 1) else none) else (if pc = 117 then some (.goto 4, 120, 121, 0, 0, 0, .null) else none)) else (bif Nat.blt pc 121 then (if pc = 120 then some (.iconst 0, 121, 0, 0, 0, 0, .int 0) else none) else (bif Nat.blt pc 123 then (if pc = 121 then some (.istore 10, 123, 0, 0, 0, 0, .null) else none) else (if pc = 123 then some (.iload 9, 125, 0, 0, 0, 0, .null) else none)))) else (bif Nat.blt pc 130 then (bif Nat.blt pc 128 then (if pc = 125 then some (.ifCond .eq 21, 128, 146, 0, 0, 0, .null) else none) else (if pc = 128 then some (.iload 10, 130, 0, 0, 0, 0, .null) else none)) else (bif Nat.blt pc 133 then (if pc = 130 then some (.ifCond .eq 16, 133, 146, 0, 0, 0, .null) else none) else (bif Nat.blt pc 135 then (if pc = 133 then some (.iload 5, 135, 0, 0, 0, 0, .null) else none) else (if pc = 135 then some (.iload 4, 137, 0, 0, 0, 0, .null) else none))))) else (bif Nat.blt pc 149 then (bif Nat.blt pc 142 then (bif Nat.blt pc 140 then (if pc = 137 then some (.if_icmp .ne 6, 140, 143, 0, 0, 0, .null) else none) else (if pc = 140 then some (.iload 6, 142, 0, 0, 0, 0, .null) else none)) else (bif Nat.blt pc 143 then (if pc = 142 then some (.ireturn, 143, 0, 0, 0, 0, .null) else none) else (bif Nat.blt pc 146 then (if pc = 143 then some (.iinc 5 1, 146, 0, 0, 0, 0, .int 1) else none) else (if pc = 146 then some (.iinc 6 1, 149, 0, 0, 0, 0, .int 1) else none)))) else (bif Nat.blt pc 155 then (bif Nat.blt pc 152 then (if pc = 149 then some (.goto (-108), 152, 41, 0, 0, 0, .null) else none) else (bif Nat.blt pc 154 then (if pc = 152 then some (.iload 4, 154, 0, 0, 0, 0, .null) else none) else (if pc = 154 then some (.iconst (-1), 155, 0, 0, 0, 0, .int (-1)) else none))) else (bif Nat.blt pc 166 then (if pc = 155 then some (.if_icmp .eq 11, 158, 166, 0, 0, 0, .null) else none) else (bif Nat.blt pc 168 then (if pc = 166 then some (.iload 5, 168, 0, 0, 0, 0, .null) else none) else (if pc = 168 then some (.ireturn, 169, 0, 0, 0, 0, .null) else none))))))))
def am_dr (pc : Nat) : Option am_I := (bif Nat.blt pc 12 then (bif Nat.blt pc 4 then (bif Nat.blt pc 2 then (if pc = 0 then some (.aload 5, 2, 0, 0, 0, 0, .null) else none) else (bif Nat.blt pc 3 then (if pc = 2 then some (.iconst 0, 3, 0, 0, 0, 0, .int 0) else none) else (if pc = 3 then some (.aload_n 0, 4, 0, 0, 0, 0, .null) else none))) else (bif Nat.blt pc 6 then (bif Nat.blt pc 5 then (if pc = 4 then some (.iload_n 1, 5, 0, 0, 0, 0, .null) else none) else (if pc = 5 then some (.iload_n 2, 6, 0, 0, 0, 0, .null) else none)) else (bif Nat.blt pc 7 then (if pc = 6 then some (.iload_n 3, 7, 0, 0, 0, 0, .null) else none) else (if pc = 7 then some (.iload 4, 9, 0, 0, 0, 0, .null) else none)))) else (bif Nat.blt pc 19 then (bif Nat.blt pc 13 then (if pc = 12 then some (.i2l, 13, 0, 0, 0, 0, .null) else none) else (bif Nat.blt pc 14 then (if pc = 13 then some (.lastore, 14, 0, 0, 0, 0, .null) else none) else (if pc = 14 then some (.goto 7, 17, 21, 0, 0, 0, .null) else none))) else (bif Nat.blt pc 21 then (bif Nat.blt pc 20 then (if pc = 19 then some (.iconst 1, 20, 0, 0, 0, 0, .int 1) else none) else (if pc = 20 then some (.ireturn, 21, 0, 0, 0, 0, .null) else none)) else (bif Nat.blt pc 22 then (if pc = 21 then some (.iconst 0, 22, 0, 0, 0, 0, .int 0) else none) else (if pc = 22 then some (.ireturn, 23, 0, 0, 0, 0, .null) else none)))))
abbrev am_gx : Nat → Option am_I := am_cut 169 am_dx
abbrev am_gr : Nat → Option am_I := am_cut 23 am_dr
theorem am_ckr : am_dchk 12 false method_3_code 23 am_dr = true := by decide +kernel
/-- a static call whose link is no row of am_lkm -/
def rs_cb (cc : ByteArray) (pc : Nat) (E : am_I) : Bool := match E with
  | (.invokestatic i, nx, r1, r2, r3, _, _) => decide (decode cc pc = .ok (.invokestatic i, 3)) && Nat.beq nx (pc + 3) && Nat.beq r3 4 && ((Nat.beq i 327 && Nat.beq r1 175 && Nat.beq r2 1) || (Nat.beq i 333 && Nat.beq r1 176 && Nat.beq r2 5))
  | _ => false
theorem am_ckx : ((List.range 169).all fun pc => match am_dx pc with
  | none => true
  | some E => am_chk 10 false prog_1_method_46_code pc E || rs_cb prog_1_method_46_code pc E) = true := by decide +kernel
theorem am_ckx1 {pc : Nat} {E : am_I} (h : am_gx pc = some E) : am_chk 10 false prog_1_method_46_code pc E = true ∨ rs_cb prog_1_method_46_code pc E = true := by
  unfold am_gx am_cut at h
  cases hb : Nat.blt pc 169 with
  | false => rw [hb] at h; cases h
  | true =>
    rw [hb] at h
    have h : am_dx pc = some E := h
    have hlt : pc < 169 := Nat.le_of_ble_eq_true hb
    have h1 := List.all_eq_true.mp am_ckx pc (List.mem_range.mpr hlt)
    rw [h] at h1
    exact (Bool.or_eq_true _ _).mp h1
section AMG
variable {p : Program} {l : Launch} {e : Env} {R : Room} {s : State} {m : MethodId} {args : Array Value} {below : List Frame} {meth : Method} {c : Code} {Q : State → Prop}
variable {G : am_G} {cc : ByteArray} {nL oc n0 s0 : Nat} {c0 : Nat × Nat} {ini : Bool} {cal : am_B} {rt : Option FieldType}
theorem am_stn_mono (hc : am_cmono cal) {cd : Nat → Option am_I} : ∀ (n pc : Nat) (L : am_L) (st : List Value) (h : am_H) (pc' : Nat) (L' : am_L) (st' : List Value) (h' : am_H), am_stn cal rt cd n pc L st h = some (pc', L', st', h') → am_le h h' := by
  intro n
  induction n with
  | zero => intro pc L st h pc' L' st' h' hs; cases hs; exact am_le_rf _
  | succ n ih =>
    intro pc L st h pc' L' st' h' hs
    unfold am_stn at hs
    split at hs
    · cases hs
    · rename_i E hE
      split at hs
      · rename_i pc1 L1 st1 h1 hstep
        have a := am_mono hc hstep
        have b := ih _ _ _ _ _ _ _ _ hs
        exact ⟨Nat.le_trans a.1 b.1, Nat.le_trans a.2 b.2⟩
      · cases hs
/-- many steps of the small machine are many of the machine -/
theorem am_stn_gd (hcm : am_cmono cal) {cd : Nat → Option am_I}
    (hst : ∀ (pc : Nat) (E : am_I) (L : am_L) (st : List Value) (h : am_H) (pc' : Nat) (L' : am_L) (st' : List Value) (h' : am_H), cd pc = some E → am_step cal rt pc E L st h = some (.inl (pc', L', st', h')) → c0.1 + (h'.1 - n0) ≤ R.cells ∧ c0.2 + (h'.2.1 - s0) ≤ R.slots → n0 ≤ h.1 ∧ s0 ≤ h.2.1 → am_gd p l e R s m args below meth c Q G nL n0 s0 c0 pc' L' st' h' → am_gd p l e R s m args below meth c Q G nL n0 s0 c0 pc L st h) :
    ∀ (n pc : Nat) (L : am_L) (st : List Value) (h : am_H) (pc' : Nat) (L' : am_L) (st' : List Value) (h' : am_H), am_stn cal rt cd n pc L st h = some (pc', L', st', h') → n0 ≤ h.1 ∧ s0 ≤ h.2.1 → c0.1 + (h'.1 - n0) ≤ R.cells ∧ c0.2 + (h'.2.1 - s0) ≤ R.slots → am_gd p l e R s m args below meth c Q G nL n0 s0 c0 pc' L' st' h' → am_gd p l e R s m args below meth c Q G nL n0 s0 c0 pc L st h := by
  intro n
  induction n with
  | zero => intro pc L st h pc' L' st' h' hs h0 hf K; cases hs; exact K
  | succ n ih =>
    intro pc L st h pc' L' st' h' hs h0 hf K
    unfold am_stn at hs
    split at hs
    · cases hs
    · rename_i E hE
      split at hs
      · rename_i pc1 L1 st1 h1 hstep
        have a := am_mono hcm hstep
        have b := am_stn_mono hcm n _ _ _ _ _ _ _ _ hs
        exact hst _ _ _ _ _ _ _ _ _ hE hstep ⟨Nat.le_trans (Nat.add_le_add_left (Nat.sub_le_sub_right b.1 _) _) hf.1, Nat.le_trans (Nat.add_le_add_left (Nat.sub_le_sub_right b.2 _) _) hf.2⟩ h0 (ih _ _ _ _ _ _ _ _ hs ⟨Nat.le_trans h0.1 a.1, Nat.le_trans h0.2 a.2⟩ hf K)
      · cases hs
theorem rs_snd {d pc pc' : Nat} {E : am_I} {L L' : am_L} {st st' : List Value} {h h' : am_H} (C : am_ctx p s m args meth c G prog_1_method_46_code nL 10 ini) (hcal : am_cok l d cal) (hR : am_fit R d) (hchk : rs_cb prog_1_method_46_code pc E = true) (hs : am_step cal rt pc E L st h = some (.inl (pc', L', st', h'))) (hfit : c0.1 + (h'.1 - n0) ≤ R.cells ∧ c0.2 + (h'.2.1 - s0) ≤ R.slots) (h0 : n0 ≤ h.1 ∧ s0 ≤ h.2.1)
    (K : am_gd p l e R s m args below meth c Q G nL n0 s0 c0 pc' L' st' h') : am_gd p l e R s m args below meth c Q G nL n0 s0 c0 pc L st h := by
  obtain ⟨ins, nx, r1, r2, r3, pos, cst⟩ := E
  cases ins with
  | invokestatic i =>
    simp only [rs_cb, Bool.and_eq_true, Bool.or_eq_true, decide_eq_true_eq] at hchk
    obtain ⟨⟨⟨hd, hn⟩, h3⟩, hk⟩ := hchk
    have hn := am_beq hn
    have h3 := am_beq h3
    subst h3
    simp only [am_step] at hs
    rw [if_neg (by decide)] at hs
    rcases hk with ⟨⟨h1, h2⟩, h4⟩ | ⟨⟨h1, h2⟩, h4⟩
    · have h1 := am_beq h1
      have h2 := am_beq h2
      have h4 := am_beq h4
      subst h1; subst h2; subst h4
      exact am_S_callS (k := 175) (ns := false) C hcal hR rfl rfl rfl (Or.inl ⟨rfl, rs_w3⟩) hd hn hs hfit h0 K
    · have h1 := am_beq h1
      have h2 := am_beq h2
      have h4 := am_beq h4
      subst h1; subst h2; subst h4
      exact am_S_callS (k := 176) (ns := false) C hcal hR rfl rfl rfl (Or.inl ⟨rfl, rs_w4⟩) hd hn hs hfit h0 K
  | _ => simp [rs_cb] at hchk
/-- a walk of a piece of a code is one of the machine -/
theorem am_v_gd {d : Nat} {cd : Nat → Option am_I} {pc : Nat} {L : am_L} {st : List Value} {h : am_H} {P : Nat → am_L → List Value → am_H → Prop}
    (hst : ∀ (pc : Nat) (E : am_I) (L : am_L) (st : List Value) (h : am_H) (pc' : Nat) (L' : am_L) (st' : List Value) (h' : am_H), cd pc = some E → am_step (am_run d) rt pc E L st h = some (.inl (pc', L', st', h')) → c0.1 + (h'.1 - n0) ≤ R.cells ∧ c0.2 + (h'.2.1 - s0) ≤ R.slots → n0 ≤ h.1 ∧ s0 ≤ h.2.1 → am_gd p l e R s m args below meth c Q G nL n0 s0 c0 pc' L' st' h' → am_gd p l e R s m args below meth c Q G nL n0 s0 c0 pc L st h)
    (h0 : n0 ≤ h.1 ∧ s0 ≤ h.2.1) (hv : am_v d rt cd pc L st h P) (K : ∀ a b q e', P a b q e' → (c0.1 + (e'.1 - n0) ≤ R.cells ∧ c0.2 + (e'.2.1 - s0) ≤ R.slots) ∧ am_gd p l e R s m args below meth c Q G nL n0 s0 c0 a b q e') : am_gd p l e R s m args below meth c Q G nL n0 s0 c0 pc L st h := by
  obtain ⟨k, a, b, q, e', h1, h2⟩ := hv
  obtain ⟨k1, k2⟩ := K _ _ _ _ h2
  exact am_stn_gd (am_run_mono d) hst k pc L st h a b q e' h1 h0 k1 k2
end AMG