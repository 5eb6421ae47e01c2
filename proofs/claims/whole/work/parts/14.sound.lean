theorem am_in_lkf : ∀ q w, q ∈ am_lkf → am_wf q = some w → w ∈ lw_tbl := by
  intro q w hq hw
  have hq : q ∈ am_lkf.drop 0 := hq
  rcases am_mem_drop 0 50 hq with hq | hq
  · exact am_rows am_wkf_0 hq hw
  rcases am_mem_drop 50 50 hq with hq | hq
  · exact am_rows am_wkf_1 hq hw
  rcases am_mem_drop 100 50 hq with hq | hq
  · exact am_rows am_wkf_2 hq hw
  · exact absurd hq (by rw [show am_lkf.drop 150 = [] from rfl]; exact List.not_mem_nil)
theorem am_in_lkm : ∀ q w, q ∈ am_lkm → am_wm q = some w → w ∈ lw_tbl := by
  intro q w hq hw
  have hq : q ∈ am_lkm.drop 0 := hq
  rcases am_mem_drop 0 50 hq with hq | hq
  · exact am_rows am_wkm_0 hq hw
  rcases am_mem_drop 50 50 hq with hq | hq
  · exact am_rows am_wkm_1 hq hw
  rcases am_mem_drop 100 50 hq with hq | hq
  · exact am_rows am_wkm_2 hq hw
  rcases am_mem_drop 150 50 hq with hq | hq
  · exact am_rows am_wkm_3 hq hw
  rcases am_mem_drop 200 50 hq with hq | hq
  · exact am_rows am_wkm_4 hq hw
  rcases am_mem_drop 250 50 hq with hq | hq
  · exact am_rows am_wkm_5 hq hw
  rcases am_mem_drop 300 50 hq with hq | hq
  · exact am_rows am_wkm_6 hq hw
  rcases am_mem_drop 350 50 hq with hq | hq
  · exact am_rows am_wkm_7 hq hw
  · exact absurd hq (by rw [show am_lkm.drop 400 = [] from rfl]; exact List.not_mem_nil)
theorem am_in_lkk : ∀ q w, q ∈ am_lkk → am_wk q = some w → w ∈ lw_tbl := by
  intro q w hq hw
  have hq : q ∈ am_lkk.drop 0 := hq
  rcases am_mem_drop 0 50 hq with hq | hq
  · exact am_rows am_wkk_0 hq hw
  · exact absurd hq (by rw [show am_lkk.drop 50 = [] from rfl]; exact List.not_mem_nil)
theorem am_in_lkc : ∀ q w, q ∈ am_lkc → (fun q => some (Cond.constant (am_own q.1) q.2.1 q.2.2)) q = some w → w ∈ lw_tbl := by
  intro q w hq hw
  have hq : q ∈ am_lkc.drop 0 := hq
  rcases am_mem_drop 0 50 hq with hq | hq
  · exact am_rows am_wkc_0 hq hw
  · exact absurd hq (by rw [show am_lkc.drop 50 = [] from rfl]; exact List.not_mem_nil)
theorem am_in_lkl : ∀ q w, q ∈ am_lkl → (fun q => some (Cond.constantLong (am_own q.1) q.2.1 q.2.2)) q = some w → w ∈ lw_tbl := by
  intro q w hq hw
  have hq : q ∈ am_lkl.drop 0 := hq
  rcases am_mem_drop 0 50 hq with hq | hq
  · exact am_rows am_wkl_0 hq hw
  · exact absurd hq (by rw [show am_lkl.drop 50 = [] from rfl]; exact List.not_mem_nil)
theorem am_in_lko : ∀ q w, q ∈ am_lko → (fun q => some (Cond.methodLink (am_own q.1) q.2 objectInit)) q = some w → w ∈ lw_tbl := by
  intro q w hq hw
  have hq : q ∈ am_lko.drop 0 := hq
  rcases am_mem_drop 0 50 hq with hq | hq
  · exact am_rows am_wko_0 hq hw
  · exact absurd hq (by rw [show am_lko.drop 50 = [] from rfl]; exact List.not_mem_nil)
theorem am_in_lka : ∀ q w, q ∈ am_lka → (fun q => some (Cond.methodLink (am_own q.1) q.2 arraycopyName)) q = some w → w ∈ lw_tbl := by
  intro q w hq hw
  have hq : q ∈ am_lka.drop 0 := hq
  rcases am_mem_drop 0 50 hq with hq | hq
  · exact am_rows am_wka_0 hq hw
  · exact absurd hq (by rw [show am_lka.drop 50 = [] from rfl]; exact List.not_mem_nil)
theorem am_lkf_ok : ∀ q ∈ am_lkf, ∃ z : vw_C, am_cl[q.2.2.1]? = some z ∧ q.2.2.2 < z.2.2 := by
  have h : am_lkf.all (fun q => match am_cl[q.2.2.1]? with
    | some z => Nat.blt q.2.2.2 z.2.2
    | none => false) = true := by decide +kernel
  intro q hq
  have h1 := List.all_eq_true.mp h q hq
  cases hz : am_cl[q.2.2.1]? with
  | none => rw [hz] at h1; cases h1
  | some z => rw [hz] at h1; exact ⟨z, rfl, Nat.le_of_ble_eq_true h1⟩
section AMZ
variable {p : Program} {l : Launch} {e : Env} {R : Room} {s : State} {m : MethodId} {args : Array Value} {below : List Frame} {meth : Method} {c : Code} {Q : State → Prop}
variable {G : am_G} {cc : ByteArray} {nL oc n0 s0 : Nat} {c0 : Nat × Nat} {ini : Bool} {cal : am_B} {rt : Option FieldType}
variable {pc pc' : Nat} {L L' : am_L} {st st' : List Value} {h h' : am_H} {E : am_I}
theorem am_beq {a b : Nat} (h : Nat.beq a b = true) : a = b := Nat.eq_of_beq_eq_true h
theorem am_snd {d : Nat} (C : am_ctx p s m args meth c G cc nL oc ini) (hcal : am_cok l d cal) (hR : am_fit R d) (hchk : am_chk oc ini cc pc E = true) (hs : am_step cal rt pc E L st h = some (.inl (pc', L', st', h'))) (hfit : c0.1 + (h'.1 - n0) ≤ R.cells ∧ c0.2 + (h'.2.1 - s0) ≤ R.slots) (h0 : n0 ≤ h.1 ∧ s0 ≤ h.2.1)
    (K : am_gd p l e R s m args below meth c Q G nL n0 s0 c0 pc' L' st' h') : am_gd p l e R s m args below meth c Q G nL n0 s0 c0 pc L st h := by
  obtain ⟨ins, nx, r1, r2, r3, pos, cst⟩ := E
  unfold am_chk at hchk
  simp only [Bool.and_eq_true, decide_eq_true_eq] at hchk
  obtain ⟨⟨hd, hn⟩, hc⟩ := hchk
  have hn := am_beq hn
  cases ins with
  | lcmp => exact am_S_lcmp C hd hn hs K
  | dup => exact am_S_dup C hd hn hs K
  | dup2 => exact am_S_dup2 C hd hn hs K
  | pop => exact am_S_pop C hd hn hs K
  | iadd => exact am_S_iadd C hd hn hs K
  | isub => exact am_S_isub C hd hn hs K
  | imul => exact am_S_imul C hd hn hs K
  | iand => exact am_S_iand C hd hn hs K
  | ior => exact am_S_ior C hd hn hs K
  | ixor => exact am_S_ixor C hd hn hs K
  | ishl => exact am_S_ishl C hd hn hs K
  | ishr => exact am_S_ishr C hd hn hs K
  | iushr => exact am_S_iushr C hd hn hs K
  | ladd => exact am_S_ladd C hd hn hs K
  | lsub => exact am_S_lsub C hd hn hs K
  | lmul => exact am_S_lmul C hd hn hs K
  | land => exact am_S_land C hd hn hs K
  | lor => exact am_S_lor C hd hn hs K
  | lxor => exact am_S_lxor C hd hn hs K
  | lshl => exact am_S_lshl C hd hn hs K
  | lshr => exact am_S_lshr C hd hn hs K
  | lushr => exact am_S_lushr C hd hn hs K
  | idiv => exact am_S_idiv C hd hn hs K
  | irem => exact am_S_irem C hd hn hs K
  | ldiv => exact am_S_ldiv C hd hn hs K
  | lrem => exact am_S_lrem C hd hn hs K
  | ineg => exact am_S_ineg C hd hn hs K
  | i2l => exact am_S_i2l C hd hn hs K
  | l2i => exact am_S_l2i C hd hn hs K
  | i2c => exact am_S_i2c C hd hn hs K
  | iaload => exact am_S_iaload C hd hn hs K
  | caload => exact am_S_caload C hd hn hs K
  | baload => exact am_S_baload C hd hn hs K
  | laload => exact am_S_laload C hd hn hs K
  | aaload => exact am_S_aaload C hd hn hs K
  | iastore => exact am_S_iastore C hd hn hs K
  | castore => exact am_S_castore C hd hn hs K
  | bastore => exact am_S_bastore C hd hn hs K
  | lastore => exact am_S_lastore C hd hn hs K
  | aastore => exact am_S_aastore C hd hn hs K
  | arraylength => exact am_S_alen C hd hn hs K
  | iload i => exact am_S_iload C hd hn hs K
  | iload_n i => exact am_S_iload_n C hd hn hs K
  | lload i => exact am_S_lload C hd hn hs K
  | lload_n i => exact am_S_lload_n C hd hn hs K
  | aload i => exact am_S_aload C hd hn hs K
  | aload_n i => exact am_S_aload_n C hd hn hs K
  | istore i => exact am_S_istore C hd hn hs K
  | istore_n i => exact am_S_istore_n C hd hn hs K
  | lstore i => exact am_S_lstore C hd hn hs K
  | lstore_n i => exact am_S_lstore_n C hd hn hs K
  | astore i => exact am_S_astore C hd hn hs K
  | astore_n i => exact am_S_astore_n C hd hn hs K
  | iconst n => exact am_S_iconst C (of_decide_eq_true hc) hd hn hs K
  | bipush n => exact am_S_bipush C (of_decide_eq_true hc) hd hn hs K
  | sipush n => exact am_S_sipush C (of_decide_eq_true hc) hd hn hs K
  | lconst n => exact am_S_lconst C (of_decide_eq_true hc) hd hn hs K
  | iinc i n => exact am_S_iinc C (of_decide_eq_true hc) hd hn hs K
  | ldc i =>
    cases hq : am_lkc[pos]? with
    | none => rw [hq] at hc; cases hc
    | some q =>
      obtain ⟨o, j, v⟩ := q
      rw [hq] at hc
      simp only [Bool.and_eq_true, decide_eq_true_eq] at hc
      obtain ⟨⟨h1, h2⟩, h3⟩ := hc
      have h1 := am_beq h1
      have h2 := am_beq h2
      subst h1; subst h2; subst h3
      exact am_S_ldc C (am_gw_in (am_in_lkc _ _ (List.mem_of_getElem? hq) rfl) rfl) hd hn hs K
  | ldc_w i =>
    cases hq : am_lkc[pos]? with
    | none => rw [hq] at hc; cases hc
    | some q =>
      obtain ⟨o, j, v⟩ := q
      rw [hq] at hc
      simp only [Bool.and_eq_true, decide_eq_true_eq] at hc
      obtain ⟨⟨h1, h2⟩, h3⟩ := hc
      have h1 := am_beq h1
      have h2 := am_beq h2
      subst h1; subst h2; subst h3
      exact am_S_ldc_w C (am_gw_in (am_in_lkc _ _ (List.mem_of_getElem? hq) rfl) rfl) hd hn hs K
  | ldc2_w i =>
    cases hq : am_lkl[pos]? with
    | none => rw [hq] at hc; cases hc
    | some q =>
      obtain ⟨o, j, v⟩ := q
      rw [hq] at hc
      simp only [Bool.and_eq_true, decide_eq_true_eq] at hc
      obtain ⟨⟨h1, h2⟩, h3⟩ := hc
      have h1 := am_beq h1
      have h2 := am_beq h2
      subst h1; subst h2; subst h3
      exact am_S_ldc2_w C (am_gw_in (am_in_lkl _ _ (List.mem_of_getElem? hq) rfl) rfl) hd hn hs K
  | ifCond q off => exact am_S_ifCond C (of_decide_eq_true hc) hd hn hs K
  | if_icmp q off => exact am_S_if_icmp C (of_decide_eq_true hc) hd hn hs K
  | goto off => exact am_S_goto C (of_decide_eq_true hc) hd hs K
  | tableswitch d lo hi offs => exact am_S_tsw C hd hs K
  | lookupswitch d ps => exact am_S_lsw C hd hs K
  | getfield i =>
    cases hq : am_lkf[pos]? with
    | none => rw [hq] at hc; cases hc
    | some q =>
      obtain ⟨o, j, c1, k1⟩ := q
      rw [hq] at hc
      simp only [Bool.and_eq_true] at hc
      obtain ⟨⟨⟨h1, h2⟩, h3⟩, h4⟩ := hc
      have h1 := am_beq h1
      have h2 := am_beq h2
      have h3 := am_beq h3
      have h4 := am_beq h4
      subst h1; subst h2; subst h3; subst h4
      obtain ⟨q0, hq0, hk0⟩ := am_lkf_ok _ (List.mem_of_getElem? hq)
      exact am_S_getf C hq0 hk0 (am_gw_in (am_in_lkf _ _ (List.mem_of_getElem? hq) (by unfold am_wf; rw [hq0]; rfl)) rfl) hd hn hs K
  | putfield i =>
    cases hq : am_lkf[pos]? with
    | none => rw [hq] at hc; cases hc
    | some q =>
      obtain ⟨o, j, c1, k1⟩ := q
      rw [hq] at hc
      simp only [Bool.and_eq_true] at hc
      obtain ⟨⟨⟨⟨⟨h1, h2⟩, h3⟩, h4⟩, h5⟩, h6⟩ := hc
      have h1 := am_beq h1
      have h2 := am_beq h2
      have h3 := am_beq h3
      have h4 := am_beq h4
      subst h1; subst h2; subst h3; subst h4
      obtain ⟨q0, hq0, hk0⟩ := am_lkf_ok _ (List.mem_of_getElem? hq)
      refine am_S_putf C hq0 hk0 (am_gw_in (am_in_lkf _ _ (List.mem_of_getElem? hq) (by unfold am_wf; rw [hq0]; rfl)) rfl) ?_ ?_ hd hn hs K
      · have hfq : am_fin c1 k1 = (q0.2.1 k1).2.2.2 := by unfold am_fin; rw [hq0]
        cases hz : am_fin c1 k1 with
        | false => exact Or.inl (by rw [← hfq]; exact hz)
        | true =>
          rw [hz] at h5
          simp only [if_true, Bool.and_eq_true] at h5
          exact Or.inr ⟨h5.1, am_beq h5.2⟩
      · clear hs
        generalize am_ty c1 k1 = T at h6
        refine ⟨fun z => ?_, fun z => ?_, fun z => ?_, fun z => ?_⟩ <;> subst z <;> cases T <;> first | rfl | exact Or.inl ⟨_, rfl⟩ | exact Or.inr ⟨_, rfl⟩ | (exact absurd h6 (by decide)) | simp at h6
  | getstatic i =>
    simp only [Bool.and_eq_true] at hc
    have h2 := am_beq hc.2
    subst h2
    exact am_S_getstatic C (am_beq hc.1) hd hn hs K
  | new i =>
    cases hq : am_lkk[pos]? with
    | none => rw [hq] at hc; cases hc
    | some q =>
      obtain ⟨o, j, c1⟩ := q
      rw [hq] at hc
      simp only [Bool.and_eq_true] at hc
      obtain ⟨⟨⟨⟨h1, h2⟩, h3⟩, h4⟩, h5⟩ := hc
      have h1 := am_beq h1
      have h2 := am_beq h2
      have h3 := am_beq h3
      have h4 := am_beq h4
      subst h1; subst h2; subst h3
      have h5 : c1 < 12 := Nat.le_of_ble_eq_true h5
      obtain ⟨q0, hq0⟩ : ∃ q0, am_cl[c1]? = some q0 := ⟨_, List.getElem?_eq_getElem (by exact h5)⟩
      exact am_S_new C hq0 (by rw [h4]; exact (am_clok hq0).2.2.2.2.2.2.1.1.symm) (am_gw_in (am_in_lkk _ _ (List.mem_of_getElem? hq) (by unfold am_wk; rw [hq0]; rfl)) rfl) hd hn hs hfit h0 K
  | newarray t =>
    cases hq : am_at4 t with
    | none =>
      have hs : (match am_at4 t with
        | some ty => am_newa ty L nx st h
        | none => none) = some (.inl (pc', L', st', h')) := hs
      rw [hq] at hs; cases hs
    | some ty =>
      have hs : (match am_at4 t with
        | some ty => am_newa ty L nx st h
        | none => none) = some (.inl (pc', L', st', h')) := hs
      rw [hq] at hs
      exact am_S_newarray C hq hd hn hs hfit h0 K
  | anewarray i =>
    cases hq : am_lkk[pos]? with
    | none => rw [hq] at hc; cases hc
    | some q =>
      obtain ⟨o, j, c1⟩ := q
      rw [hq] at hc
      simp only [Bool.and_eq_true, Bool.or_eq_true] at hc
      obtain ⟨⟨⟨h1, h2⟩, h3⟩, h4⟩ := hc
      have h1 := am_beq h1
      have h2 := am_beq h2
      have h3 := am_beq h3
      subst h1; subst h2; subst h3
      have h4 : c1 = 7 ∨ c1 = 4 := h4.elim (fun z => Or.inl (am_beq z)) (fun z => Or.inr (am_beq z))
      obtain ⟨q0, hq0⟩ : ∃ q0, am_cl[c1]? = some q0 := by rcases h4 with rfl | rfl <;> exact ⟨_, rfl⟩
      have hs : (match am_cl[c1]? with
        | some q => am_newa (.object q.1) L nx st h
        | none => none) = some (.inl (pc', L', st', h')) := hs
      rw [hq0] at hs
      exact am_S_anewarray C hq0 h4 (am_gw_in (am_in_lkk _ _ (List.mem_of_getElem? hq) (by unfold am_wk; rw [hq0]; rfl)) rfl) hd hn hs hfit h0 K
  | invokevirtual i =>
    cases hq : am_lkm[pos]? with
    | none => rw [hq] at hc; cases hc
    | some q =>
    cases hy : am_nm[r1]? with
    | none => rw [hq, hy] at hc; cases hc
    | some Y =>
      obtain ⟨o, j, k, ns⟩ := q
      obtain ⟨y, yb, yl, yr, np, stc, ii, yc⟩ := Y
      rw [hq, hy] at hc
      cases cst with
      | ref ci =>
        simp only [Bool.and_eq_true, Bool.not_eq_true'] at hc
        obtain ⟨⟨⟨⟨⟨⟨⟨⟨h1, h2⟩, h3⟩, h4⟩, h5⟩, h6⟩, h7⟩, h8⟩, h9⟩ := hc
        have h1 := am_beq h1
        have h2 := am_beq h2
        have h3 := am_beq h3
        have h8 := am_beq h8
        have h9 := am_beq h9
        subst h1; subst h2; subst h3
        exact am_S_callV (ns := ns) C hcal hR hy h6 h7 h8 h9 (am_lk hy (List.mem_of_getElem? hq) C.2.2.2.2.2.1 am_in_lkm) hd hn hs hfit h0 K
      | _ => cases hc
  | invokespecial i =>
    by_cases hr3 : r3 = 6
    · subst hr3
      have hc : (match am_lko[pos]? with
        | some (o, j) => Nat.beq o oc && Nat.beq j i
        | none => false) = true := hc
      cases hq : am_lko[pos]? with
      | none => rw [hq] at hc; cases hc
      | some q =>
        obtain ⟨o, j⟩ := q
        rw [hq] at hc
        simp only [Bool.and_eq_true] at hc
        have h1 := am_beq hc.1
        have h2 := am_beq hc.2
        subst h1; subst h2
        exact am_S_objInit C hR (am_gw_in (am_in_lko _ _ (List.mem_of_getElem? hq) rfl) rfl) hd hn hs K
    · have hc := hc
      simp only [if_neg hr3] at hc
      simp only [am_step, if_neg hr3] at hs
      cases hq : am_lkm[pos]? with
      | none => rw [hq] at hc; cases hc
      | some q =>
      cases hy : am_nm[r1]? with
      | none => rw [hq, hy] at hc; cases hc
      | some Y =>
        obtain ⟨o, j, k, ns⟩ := q
        obtain ⟨y, yb, yl, yr, np, stc, ii, yc⟩ := Y
        rw [hq, hy] at hc
        simp only [Bool.and_eq_true, Bool.not_eq_true'] at hc
        obtain ⟨⟨⟨⟨⟨⟨⟨⟨h1, h2⟩, h3⟩, h4⟩, h5⟩, h6⟩, h7⟩, h8⟩, h9⟩ := hc
        have h1 := am_beq h1
        have h2 := am_beq h2
        have h3 := am_beq h3
        have h8 := am_beq h8
        have h9 : yr = none := Option.isNone_iff_eq_none.mp h9
        subst h1; subst h2; subst h3
        exact am_S_callI (ns := ns) C hcal hR hy h6 h7 h9 h8 (am_lk hy (List.mem_of_getElem? hq) C.2.2.2.2.2.1 am_in_lkm) hd hn hs hfit h0 K
  | invokestatic i =>
    by_cases hr3 : r3 = 7
    · subst hr3
      have hc : (match am_lka[pos]? with
        | some (o, j) => Nat.beq o oc && Nat.beq j i
        | none => false) = true := hc
      cases hq : am_lka[pos]? with
      | none => rw [hq] at hc; cases hc
      | some q =>
        obtain ⟨o, j⟩ := q
        rw [hq] at hc
        simp only [Bool.and_eq_true] at hc
        have h1 := am_beq hc.1
        have h2 := am_beq hc.2
        subst h1; subst h2
        exact am_S_copy C hR (am_gw_in (am_in_lka _ _ (List.mem_of_getElem? hq) rfl) rfl) hd hn hs K
    · have hc := hc
      simp only [if_neg hr3] at hc
      simp only [am_step, if_neg hr3] at hs
      cases hq : am_lkm[pos]? with
      | none => rw [hq] at hc; cases hc
      | some q =>
      cases hy : am_nm[r1]? with
      | none => rw [hq, hy] at hc; cases hc
      | some Y =>
        obtain ⟨o, j, k, ns⟩ := q
        obtain ⟨y, yb, yl, yr, np, stc, ii, yc⟩ := Y
        rw [hq, hy] at hc
        simp only [Bool.and_eq_true] at hc
        obtain ⟨⟨⟨⟨⟨⟨h1, h2⟩, h3⟩, h4⟩, h5⟩, h6⟩, h7⟩ := hc
        have h1 := am_beq h1
        have h2 := am_beq h2
        have h3 := am_beq h3
        have h7 := am_beq h7
        subst h1; subst h2; subst h3
        exact am_S_callS (ns := ns) C hcal hR hy h6 h7 (am_lk hy (List.mem_of_getElem? hq) C.2.2.2.2.2.1 am_in_lkm) hd hn hs hfit h0 K
  | ireturn =>
    simp only [am_step] at hs
    split at hs
    · split at hs <;> cases hs
    · cases hs
  | lreturn =>
    simp only [am_step] at hs
    split at hs <;> cases hs
  | return_ =>
    simp only [am_step] at hs
    split at hs <;> cases hs
  | _ => cases hs
end AMZ
