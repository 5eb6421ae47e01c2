section AMR
variable {p : Program} {l : Launch} {e : Env} {R : Room} {s : State} {m : MethodId} {args : Array Value} {below : List Frame} {meth : Method} {c : Code} {Q : State → Prop}
variable {G : am_G} {cc : ByteArray} {nL oc n0 s0 : Nat} {c0 : Nat × Nat} {ini : Bool} {cal : am_B} {rt : Option FieldType}
variable {pc pc' : Nat} {L L' : am_L} {st st' : List Value} {h h' : am_H} {E : am_I}
/-- cells and slots are never unmade -/
def am_le (h h' : am_H) : Prop := h.1 ≤ h'.1 ∧ h.2.1 ≤ h'.2.1
theorem am_le_rf (h : am_H) : am_le h h := ⟨Nat.le_refl _, Nat.le_refl _⟩
def am_cmono (cal : am_B) : Prop := ∀ k vs h r h', cal k vs h = some (r, h') → am_le h h'
theorem am_mono_n {t : Nat} (hs : am_n t L st h = some (.inl (pc', L', st', h'))) : h' = h := by cases hs; rfl
theorem am_mono_call {k n nx : Nat} (hc : am_cmono cal) (hs : am_call cal k n L nx st h = some (.inl (pc', L', st', h'))) : am_le h h' := by
  unfold am_call at hs
  split at hs
  · split at hs
    · rename_i v h1 hq
      cases hs
      exact hc _ _ _ _ _ hq
    · cases hs
  · cases hs
set_option maxHeartbeats 1000000 in
theorem am_mono (hc : am_cmono cal) (hs : am_step cal rt pc E L st h = some (.inl (pc', L', st', h'))) : am_le h h' := by
  obtain ⟨ins, nx, r1, r2, r3, pos, cst⟩ := E
  cases ins with
  | invokevirtual i =>
    simp only [am_step] at hs
    split at hs
    · split at hs
      · exact am_mono_call hc hs
      · cases hs
    · cases hs
  | invokespecial i =>
    simp only [am_step] at hs
    split at hs
    · split at hs
      · split at hs
        · cases hs; exact am_le_rf _
        · cases hs
      · cases hs
    · split at hs
      · exact am_mono_call hc hs
      · cases hs
  | invokestatic i =>
    simp only [am_step] at hs
    split at hs
    · unfold am_copy at hs
      split at hs
      · split at hs
        · split at hs
          · cases hs
          · cases hs; exact am_le_rf _
        · split at hs
          · cases hs
          · cases hs; exact am_le_rf _
        · cases hs
      · cases hs
    · split at hs
      · exact am_mono_call hc hs
      · cases hs
  | new i =>
    simp only [am_step, am_new] at hs
    split at hs
    · cases hs
    · cases hs; exact ⟨Nat.le_succ _, Nat.le_add_right _ _⟩
  | newarray t =>
    simp only [am_step, am_newa] at hs
    split at hs
    · split at hs
      · split at hs
        · cases hs
        · cases hs; exact ⟨Nat.le_succ _, Nat.le_add_right _ _⟩
      · cases hs
    · cases hs
  | anewarray t =>
    simp only [am_step, am_newa] at hs
    split at hs
    · split at hs
      · split at hs
        · cases hs
        · cases hs; exact ⟨Nat.le_succ _, Nat.le_add_right _ _⟩
      · cases hs
    · cases hs
  | putfield i =>
    simp only [am_step, am_putf] at hs
    repeat' split at hs
    all_goals first | (cases hs; done) | (cases hs; exact am_le_rf _)
  | _ =>
    simp only [am_step, am_li, am_ll, am_la, am_si, am_sl, am_sa, am_i2, am_l2, am_l3, am_c1, am_c2, am_jmp, am_getf, am_ald, am_aldq, am_ast, am_astL, am_astq, am_alen, am_n] at hs
    first
      | (cases hs; done)
      | (cases hs; exact am_le_rf _)
      | (repeat' split at hs
         all_goals first | (cases hs; done) | (cases hs; exact am_le_rf _))
theorem am_step_ret {r : Option Value} (hs : am_step cal rt pc E L st h = some (.inr (r, h'))) : h' = h := by
  obtain ⟨ins, nx, r1, r2, r3, pos, cst⟩ := E
  cases ins with
  | ireturn =>
    simp only [am_step] at hs
    split at hs
    · split at hs
      · cases hs; rfl
      · cases hs
    · cases hs
  | lreturn =>
    simp only [am_step] at hs
    split at hs
    · cases hs; rfl
    · cases hs
  | return_ =>
    simp only [am_step] at hs
    split at hs
    · cases hs; rfl
    · cases hs
  | putfield i =>
    simp only [am_step, am_putf, am_n] at hs
    repeat' split at hs
    all_goals cases hs
  | _ =>
    simp only [am_step, am_li, am_ll, am_la, am_si, am_sl, am_sa, am_i2, am_l2, am_l3, am_c1, am_c2, am_jmp, am_getf, am_ald, am_aldq, am_ast, am_astL, am_astq, am_alen, am_new, am_newa, am_call, am_copy, am_n] at hs
    first
      | (cases hs; done)
      | (repeat' split at hs
         all_goals cases hs)
theorem am_ex_mono {cd : Nat → Option am_I} (hc : am_cmono cal) : ∀ (n : Nat) (pc : Nat) (L : am_L) (st : List Value) (h : am_H) (r : Option Value) (h' : am_H), am_ex cal rt cd n pc L st h = some (r, h') → am_le h h' := by
  intro n
  induction n with
  | zero => intro pc L st h r h' hs; cases hs
  | succ n ih =>
    intro pc L st h r h' hs
    unfold am_ex at hs
    split at hs
    · cases hs
    · split at hs
      · cases hs
      · rename_i h1
        have z1 := am_mono hc h1
        have z2 := ih _ _ _ _ _ _ hs
        exact ⟨Nat.le_trans z1.1 z2.1, Nat.le_trans z1.2 z2.2⟩
      · rename_i q h1
        cases hs
        rw [am_step_ret h1]
        exact am_le_rf _
/-- the end of a method -/
theorem am_S_end {r : Option Value} (C : am_ctx p s m args meth c G cc nL oc ini) (hrt : meth.sig.returnType = rt) (hlocks : meth.locks = false) (hchk : am_chk oc ini cc pc E = true) (hs : am_step cal rt pc E L st h = some (.inr (r, h'))) :
    am_gd p l e R s m args below meth c (MQ below (am_Qc G r h') args s (c0.1 + (h'.1 - n0)) (c0.2 + (h'.2.1 - s0)) (am_A G)) G nL n0 s0 c0 pc L st h := by
  have hh := am_step_ret hs
  subst hh
  obtain ⟨ins, nx, r1, r2, r3, pos, cst⟩ := E
  unfold am_chk at hchk
  simp only [Bool.and_eq_true, decide_eq_true_eq] at hchk
  obtain ⟨⟨hd, hn⟩, hck⟩ := hchk
  obtain ⟨hx, hb, -⟩ := C
  intro H locs ls hr hl hS
  cases ins with
  | ireturn =>
    simp only [am_step] at hs
    split at hs
    · rename_i x ty
      split at hs
      · rename_i hok
        cases hs
        have hq : ∀ t : State, t.heap = H → s.WarmedH t.vm → am_Qc G (some (.int x)) h' args s (.returned (some (.int x))) t := fun t ht hW => ⟨rfl, by rw [ht]; exact am_rel_moved hW.alike hr, hS.F ht⟩
        refine W.zret hx hb hrt ?_ hq hS.2.2 hd
        unfold am_iok at hok
        split at hok
        · rfl
        · have z : x = 0 ∨ x = 1 := by simpa using hok
          rcases z with rfl | rfl <;> decide
        · exact of_decide_eq_true hok
        · cases hok
      · cases hs
    · cases hs
  | lreturn =>
    simp only [am_step] at hs
    split at hs
    · rename_i x
      cases hs
      exact W.lret hx hb hrt (fun t ht hW => ⟨rfl, by rw [ht]; exact am_rel_moved hW.alike hr, hS.F ht⟩) hS.2.2 hd
    · cases hs
  | return_ =>
    simp only [am_step] at hs
    split at hs
    · cases hs
      exact W.vret hx hb hrt (fun t ht hW => ⟨rfl, by rw [ht]; exact am_rel_moved hW.alike hr, hS.F ht⟩) hS.2.2 hd
    · cases hs
  | putfield i =>
    simp only [am_step, am_putf, am_n] at hs
    repeat' split at hs
    all_goals cases hs
  | _ =>
    simp only [am_step, am_li, am_ll, am_la, am_si, am_sl, am_sa, am_i2, am_l2, am_l3, am_c1, am_c2, am_jmp, am_getf, am_ald, am_aldq, am_ast, am_astL, am_astq, am_alen, am_new, am_newa, am_call, am_copy, am_n] at hs
    first
      | (cases hs; done)
      | (repeat' split at hs
         all_goals cases hs)
/-- a run of the small machine through one method is a walk -/
theorem am_frame {d : Nat} {cd : Nat → Option am_I} (C : am_ctx p s m args meth c G cc nL oc ini) (hcal : am_cok l d cal) (hcm : am_cmono cal) (hR : am_fit R d) (hrt : meth.sig.returnType = rt) (hlocks : meth.locks = false) (hcd : ∀ pc E, cd pc = some E → am_chk oc ini cc pc E = true) :
    ∀ (n : Nat) (pc : Nat) (L : am_L) (st : List Value) (h : am_H) (r : Option Value) (h' : am_H), am_ex cal rt cd n pc L st h = some (r, h') → n0 ≤ h.1 ∧ s0 ≤ h.2.1 → c0.1 + (h'.1 - n0) ≤ R.cells ∧ c0.2 + (h'.2.1 - s0) ≤ R.slots →
      am_gd p l e R s m args below meth c (MQ below (am_Qc G r h') args s (c0.1 + (h'.1 - n0)) (c0.2 + (h'.2.1 - s0)) (am_A G)) G nL n0 s0 c0 pc L st h := by
  intro n
  induction n with
  | zero => intro pc L st h r h' hs; cases hs
  | succ n ih =>
    intro pc L st h r h' hs h0 hfit
    unfold am_ex at hs
    split at hs
    · cases hs
    · rename_i E hE
      split at hs
      · cases hs
      · rename_i pc1 L1 st1 h1 hstep
        have z1 := am_mono hcm hstep
        have z2 := am_ex_mono hcm _ _ _ _ _ _ _ hs
        exact am_snd C hcal hR (hcd _ _ hE) hstep ⟨Nat.le_trans (Nat.add_le_add_left (Nat.sub_le_sub_right z2.1 _) _) hfit.1, Nat.le_trans (Nat.add_le_add_left (Nat.sub_le_sub_right z2.2 _) _) hfit.2⟩ h0 (ih _ _ _ _ _ _ hs ⟨Nat.le_trans h0.1 z1.1, Nat.le_trans h0.2 z1.2⟩ hfit)
      · rename_i q hstep
        cases hs
        exact am_S_end C hrt hlocks (hcd _ _ hE) hstep
/-! ===== runs of methods ===== -/
theorem am_ex_det {cd : Nat → Option am_I} : ∀ (n k : Nat) (pc : Nat) (L : am_L) (st : List Value) (h : am_H) (r : am_R), am_ex cal rt cd n pc L st h = some r → am_ex cal rt cd (n + k) pc L st h = some r := by
  intro n
  induction n with
  | zero => intro k pc L st h r hs; cases hs
  | succ n ih =>
    intro k pc L st h r hs
    rw [show n + 1 + k = (n + k) + 1 by omega]
    unfold am_ex at hs ⊢
    split at hs
    · cases hs
    · rename_i E hE
      split at hs
      · cases hs
      · rename_i pc1 L1 st1 h1 hstep
        exact ih k _ _ _ _ _ hs
      · exact hs
/-- the method number k, called at depth d -/
noncomputable def am_run : Nat → am_B
  | 0 => fun _ _ _ => none
  | d + 1 => fun k vs h => match am_nm[k]?, am_cd[k]? with
    | some Y, some q => if (am_en vs).length ≤ Y.2.2.1 then (@dite _ (∃ r, ∃ n, am_ex (am_run d) Y.2.2.2.1 (am_cut q.1 q.2) n 0 (am_en0 vs Y.2.2.1) [] h = some r) (Classical.propDecidable _) (fun z => some z.choose) (fun _ => none)) else none
    | _, _ => none
end AMR
