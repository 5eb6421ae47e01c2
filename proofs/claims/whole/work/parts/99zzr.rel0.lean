theorem am_start_all : ∃ r, am_start = some r ∧ am_chk0 r = true ∧ ((List.range 150).all fun j => am_same (r.2.2.2.2.2.1 (j + 2)) (am_S0 0 (j + 2))) = true ∧ am_ini1 r.2.2.2.2.2.2.1 ∧ am_ini2 r.2.2.2.2.2.2.1 ∧ am_ini3 r.2.2.2.2.2.2.2 := by
  have h1 := am_start_1
  have h2 := am_start_2
  have h3 := am_start_3
  have h4 := am_start_4
  have h5 := am_start_5
  generalize am_start = x at h1 h2 h3 h4 h5
  cases x with
  | none => exact absurd h1 Bool.false_ne_true
  | some r => exact ⟨r, rfl, h1, h2, of_decide_eq_true h3, of_decide_eq_true h4, of_decide_eq_true h5⟩
theorem REL_0 {μ : am_M2} {ν : am_N2} (xs : Nat → Int32) (h1 : am_ini1 μ) (h2 : am_ini2 μ) (h3 : am_ini3 ν) : REL 0 xs (fun i => if i = 0 then xs else μ i) (fun i => if i = 1 then (fun r => lN (lg r)) else ν i) := by
  obtain ⟨a1, a2, a3, a4, a5, a6, a7, a8, a9, a10, a11, a12, a13, a14⟩ := h1
  obtain ⟨b1, b2, b3, b4, b5, b6, b7, b8, b9, b10, b11, b12⟩ := h2
  refine ⟨(fun _ => 0, 0), d0.1, fun _ => 0, w0, [], k0, s0, y0, ⟨⟨Nat.zero_le _, fun i hi => absurd hi (Nat.not_lt_zero _)⟩, ⟨a1, fun i hi => absurd hi (Nat.not_lt_zero _)⟩, ⟨a2, fun i hi => absurd hi (Nat.not_lt_zero _)⟩⟩, ⟨fun r hr => rfl, fun r hr => h3 r hr⟩, ⟨⟨⟨⟨a3, by decide, a4, by decide⟩, a5, a6, fun i hi => absurd hi (Nat.not_lt_zero _), fun i hi => absurd hi (Nat.not_lt_zero _), fun z => absurd z (Nat.lt_irrefl 0)⟩, ⟨fun s hs => (a7 s hs).1, fun s hs => (a7 s hs).2, a8⟩, ⟨0, by decide, a9, a10, by decide, fun i hi => absurd hi (Nat.not_lt_zero _)⟩, ⟨a11, fun m hm w s e => (by cases e)⟩, ⟨a12, by decide, fun i hi => absurd hi (Nat.not_lt_zero _), ⟨0, by decide, a13, fun i hi => absurd hi (Nat.not_lt_zero _)⟩⟩, ⟨a14, by decide, fun i hi => absurd hi (Nat.not_lt_zero _)⟩⟩, ⟨⟨b1, b2, b3, b4, fun i hi => absurd hi (Nat.not_lt_zero _), fun j hj => ?_, Or.inl ⟨b5, rfl⟩⟩, ⟨b7, fun s hs => ⟨?_, ?_⟩⟩, ⟨b9, by decide, fun i hi => absurd hi (Nat.not_lt_zero _)⟩, fun m hm => ⟨b10 m hm, fun w s e => (by cases e)⟩, ⟨b11, by decide, fun i hi => absurd hi (Nat.not_lt_zero _)⟩, ⟨b12, by decide, fun i hi => absurd hi (Nat.not_lt_zero _)⟩⟩⟩, ⟨dG_vOk d0_g, ⟨w0_I _, Nat.zero_le _⟩, fun w hw => absurd hw List.not_mem_nil, fun m w s e => (by cases e), ⟨by decide, fun i hi => absurd hi (Nat.not_lt_zero _)⟩, ⟨by decide, fun i hi => absurd hi (Nat.not_lt_zero _)⟩⟩, ⟨fun i hi => absurd hi (Nat.not_lt_zero _), fun i hi => absurd hi (Nat.not_lt_zero _), fun s t hs => absurd hs (Nat.not_lt_zero _)⟩, fun k => rfl⟩
  · have hj' : j < 1 := hj
    have e : j = 0 := by omega
    subst e
    exact b6
  · rw [show 0 + 1 + s = 1 + s by omega]
    exact (b8 s hs).1
  · rw [show 0 + 7 + s = 7 + s by omega]
    exact (b8 s hs).2
theorem arrV_c {c : ClassId} {n : Nat} {f f' : Nat → Value} (h : ∀ j, j < n → f j = f' j) : arrV c n f = arrV c n f' := by
  have e : (fun j : Fin n => f j.val) = fun j : Fin n => f' j.val := funext fun j => h j.val j.isLt
  unfold arrV
  rw [e]
theorem am_same_at {G : am_G} {U : State} {H : Heap} {μ : am_M2} {ν : am_N2} {i : Nat} {x y : am_Sh} (hi : 2 ≤ i) (h : am_same (some x) (some y) = true) (ha : am_at G U H μ ν i x) : am_at G U H μ ν i y := by
  cases x with
  | inr a =>
    cases y with
    | inr b =>
      obtain ⟨c, k⟩ := a
      obtain ⟨c', k'⟩ := b
      have h : (Nat.beq c c' && decide (k = k')) = true := h
      simp only [Bool.and_eq_true, decide_eq_true_eq] at h
      have h1 := am_beq h.1
      have h2 := h.2
      subst h1; subst h2
      exact ha
    | inl b => exact absurd (show false = true from h) Bool.false_ne_true
  | inl a =>
    cases y with
    | inr b => exact absurd (show false = true from h) Bool.false_ne_true
    | inl b =>
      obtain ⟨t, w, n, f⟩ := a
      obtain ⟨t', w', n', f'⟩ := b
      simp only [am_same] at h
      rw [Bool.and_eq_true, Bool.and_eq_true, Bool.and_eq_true] at h
      obtain ⟨⟨⟨h1, h2⟩, h3⟩, h4⟩ := h
      have h1 := of_decide_eq_true h1
      have h2 : w = w' := by simpa using h2
      have h3 := am_beq h3
      subst h1; subst h2; subst h3
      cases w with
      | false => exact absurd ha.1 (by omega)
      | true =>
        obtain ⟨g1, g2, g3⟩ := ha
        refine ⟨g1, g2, g3.trans ?_⟩
        refine congrArg some (arrV_c fun j hj => ?_)
        cases t with
        | object C =>
          have h4' : ((List.range n).all fun j => decide (f j = f' j)) = true := h4
          have e := of_decide_eq_true (List.all_eq_true.mp h4' j (List.mem_range.mpr hj))
          show am_rv G.1 (va_rf (f j)) = am_rv G.1 (va_rf (f' j))
          rw [e]
        | _ => rfl
theorem nblt {i k : Nat} (h : k ≤ i) : Nat.blt i k = false := by
  cases e : Nat.blt i k with
  | false => rfl
  | true => exact absurd (Nat.le_of_ble_eq_true e) (by omega)
theorem am_S0n (n : Nat) {i : Nat} (h : 2 ≤ i) : am_S0 n i = am_S0 0 i := by
  unfold am_S0
  rw [nblt (show 1 ≤ i by omega)]
  rfl
theorem am_S0o (n : Nat) {i : Nat} (h : 152 ≤ i) : am_S0 n i = none := by
  unfold am_S0
  rw [nblt h]
  rfl
theorem am_rel_0 {G : am_G} {h : am_H} {s : State} {H : Heap} {n : Nat} {xs : Nat → Int32} {A : Nat → Prop} (hr : am_rel G h s H) (hS : ((List.range 150).all fun j => am_same (h.2.2.1 (j + 2)) (am_S0 0 (j + 2))) = true) (hX : va_X (G.1 0) n xs s H) (hT : va_T .long (G.1 1) 18 (fun j => .long (lN (lg j))) A s H) : am_rel G (am_hp n (fun i => if i = 0 then xs else h.2.2.2.1 i) (fun i => if i = 1 then (fun r => lN (lg r)) else h.2.2.2.2 i)) s H := by
  refine ⟨fun i x hi => ?_, Or.inl rfl, hr.2.2.1, hr.2.2.2⟩
  rcases (show i = 0 ∨ i = 1 ∨ 2 ≤ i by omega) with rfl | rfl | h2
  · have hi : some (Sum.inl (.int, false, n, fun _ => none)) = some x := hi
    injection hi with hi
    subst hi
    obtain ⟨scr, hcb, hof, hkn, hsz, hval⟩ := hX
    exact ⟨by decide, Or.inl rfl, scr, hcb, hof, hkn, Nat.le_of_eq hsz.symm, congrArg Nat.toInt32 hsz, fun j hj => hval j hj⟩
  · have hi : some (Sum.inl (.long, false, 18, fun _ => none)) = some x := hi
    injection hi with hi
    subst hi
    obtain ⟨cell, g1, g2, g3, g4, g5, g6, -⟩ := hT
    exact ⟨by decide, Or.inr rfl, cell, g1, g2, g3, g4, g5, fun j hj => g6 j hj⟩
  · have hi : am_S0 n i = some x := hi
    rcases Nat.lt_or_ge i 152 with z | z
    · have hs := List.all_eq_true.mp hS (i - 2) (List.mem_range.mpr (by omega))
      rw [show i - 2 + 2 = i by omega] at hs
      rw [am_S0n n h2] at hi
      rw [hi] at hs
      cases hx : h.2.2.1 i with
      | none => rw [hx] at hs; exact absurd (show false = true from hs) Bool.false_ne_true
      | some y =>
        rw [hx] at hs
        exact am_at_row (show (if i = 0 then xs else h.2.2.2.1 i) = h.2.2.2.1 i from if_neg (by omega)) (show (if i = 1 then (fun r => lN (lg r)) else h.2.2.2.2 i) = h.2.2.2.2 i from if_neg (by omega)) (am_same_at h2 hs (hr.1 i y hx))
    · rw [am_S0o n z] at hi; cases hi