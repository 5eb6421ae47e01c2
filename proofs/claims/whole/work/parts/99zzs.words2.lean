/-- what holds at the law's entry: the machine, the code, the tables' words (any of lw_tbl by 'hts w (by decide +kernel)'), the script of L ints xs at the cell b, what the Statement gives of the start (any of its parts by flat_of_before) -/
def lw_At (p : Program) (s : State) (m : MethodId) (meth : Method) (c : Code) (b L : Nat) (xs : Nat → Int32) : Prop :=
  p.tables.exec = Jvm.exec ∧ c.code = code ∧ meth.sig.returnType = ret ∧ c.maxLocals = 7 ∧ s.vm.findClass R_law = some m.cls ∧ (∀ w ∈ lw_tbl, w.before #[Value.ref b] s = true) ∧ va_X b L xs s s.heap ∧ b < s.heap.size ∧ meth.locks = false ∧ (Jvm.Cond.and given_1 narrow_1).before #[Value.ref b] s = true
section LWS
theorem lw_lang {args : Array Value} {s : State} (hs : ∀ w ∈ flatC (Jvm.Cond.and given_1 narrow_1), w.before args s = true) : ∀ j : Nat, j < 18 → (Term.elem (.static "StoneSecrets" "LANGUAGE" "[J") (.int (Int32.ofNat j))).eval args s none [] s = some (.long (lN (lg j))) := by
  intro j hj
  rcases (show j = 0 ∨ j = 1 ∨ j = 2 ∨ j = 3 ∨ j = 4 ∨ j = 5 ∨ j = 6 ∨ j = 7 ∨ j = 8 ∨ j = 9 ∨ j = 10 ∨ j = 11 ∨ j = 12 ∨ j = 13 ∨ j = 14 ∨ j = 15 ∨ j = 16 ∨ j = 17 by omega) with rfl | rfl | rfl | rfl | rfl | rfl | rfl | rfl | rfl | rfl | rfl | rfl | rfl | rfl | rfl | rfl | rfl | rfl
  · exact (va_eqtl (hs (Cond.eq (.elem (.static "StoneSecrets" "LANGUAGE" "[J") (.int 0)) (.long 2002873452)) (by decide +kernel))).trans (congrArg (fun z => some (Value.long z)) (show (2002873452 : Int64) = lN (lg 0) from by decide +kernel))
  · exact (va_eqtl (hs (Cond.eq (.elem (.static "StoneSecrets" "LANGUAGE" "[J") (.int 1)) (.long 1936684396)) (by decide +kernel))).trans (congrArg (fun z => some (Value.long z)) (show (1936684396 : Int64) = lN (lg 1) from by decide +kernel))
  · exact (va_eqtl (hs (Cond.eq (.elem (.static "StoneSecrets" "LANGUAGE" "[J") (.int 2)) (.long 126879297332596)) (by decide +kernel))).trans (congrArg (fun z => some (Value.long z)) (show (126879297332596 : Int64) = lN (lg 2) from by decide +kernel))
  · exact (va_eqtl (hs (Cond.eq (.elem (.static "StoneSecrets" "LANGUAGE" "[J") (.int 3)) (.long 6583653)) (by decide +kernel))).trans (congrArg (fun z => some (Value.long z)) (show (6583653 : Int64) = lN (lg 3) from by decide +kernel))
  · exact (va_eqtl (hs (Cond.eq (.elem (.static "StoneSecrets" "LANGUAGE" "[J") (.int 4)) (.long 448647033971)) (by decide +kernel))).trans (congrArg (fun z => some (Value.long z)) (show (448647033971 : Int64) = lN (lg 4) from by decide +kernel))
  · exact (va_eqtl (hs (Cond.eq (.elem (.static "StoneSecrets" "LANGUAGE" "[J") (.int 5)) (.long 440006570868)) (by decide +kernel))).trans (congrArg (fun z => some (Value.long z)) (show (440006570868 : Int64) = lN (lg 5) from by decide +kernel))
  · exact (va_eqtl (hs (Cond.eq (.elem (.static "StoneSecrets" "LANGUAGE" "[J") (.int 6)) (.long 439721159795)) (by decide +kernel))).trans (congrArg (fun z => some (Value.long z)) (show (439721159795 : Int64) = lN (lg 6) from by decide +kernel))
  · exact (va_eqtl (hs (Cond.eq (.elem (.static "StoneSecrets" "LANGUAGE" "[J") (.int 7)) (.long 2003133803)) (by decide +kernel))).trans (congrArg (fun z => some (Value.long z)) (show (2003133803 : Int64) = lN (lg 7) from by decide +kernel))
  · exact (va_eqtl (hs (Cond.eq (.elem (.static "StoneSecrets" "LANGUAGE" "[J") (.int 8)) (.long 1952803948)) (by decide +kernel))).trans (congrArg (fun z => some (Value.long z)) (show (1952803948 : Int64) = lN (lg 8) from by decide +kernel))
  · exact (va_eqtl (hs (Cond.eq (.elem (.static "StoneSecrets" "LANGUAGE" "[J") (.int 9)) (.long 7562612)) (by decide +kernel))).trans (congrArg (fun z => some (Value.long z)) (show (7562612 : Int64) = lN (lg 9) from by decide +kernel))
  · exact (va_eqtl (hs (Cond.eq (.elem (.static "StoneSecrets" "LANGUAGE" "[J") (.int 10)) (.long 1952541541)) (by decide +kernel))).trans (congrArg (fun z => some (Value.long z)) (show (1952541541 : Int64) = lN (lg 10) from by decide +kernel))
  · exact (va_eqtl (hs (Cond.eq (.elem (.static "StoneSecrets" "LANGUAGE" "[J") (.int 11)) (.long 482854660462)) (by decide +kernel))).trans (congrArg (fun z => some (Value.long z)) (show (482854660462 : Int64) = lN (lg 11) from by decide +kernel))
  · exact (va_eqtl (hs (Cond.eq (.elem (.static "StoneSecrets" "LANGUAGE" "[J") (.int 12)) (.long 6451065)) (by decide +kernel))).trans (congrArg (fun z => some (Value.long z)) (show (6451065 : Int64) = lN (lg 12) from by decide +kernel))
  · exact (va_eqtl (hs (Cond.eq (.elem (.static "StoneSecrets" "LANGUAGE" "[J") (.int 13)) (.long 123636696839028)) (by decide +kernel))).trans (congrArg (fun z => some (Value.long z)) (show (123636696839028 : Int64) = lN (lg 13) from by decide +kernel))
  · exact (va_eqtl (hs (Cond.eq (.elem (.static "StoneSecrets" "LANGUAGE" "[J") (.int 14)) (.long 1819243108)) (by decide +kernel))).trans (congrArg (fun z => some (Value.long z)) (show (1819243108 : Int64) = lN (lg 14) from by decide +kernel))
  · exact (va_eqtl (hs (Cond.eq (.elem (.static "StoneSecrets" "LANGUAGE" "[J") (.int 15)) (.long 7237492)) (by decide +kernel))).trans (congrArg (fun z => some (Value.long z)) (show (7237492 : Int64) = lN (lg 15) from by decide +kernel))
  · exact (va_eqtl (hs (Cond.eq (.elem (.static "StoneSecrets" "LANGUAGE" "[J") (.int 16)) (.long 6385252)) (by decide +kernel))).trans (congrArg (fun z => some (Value.long z)) (show (6385252 : Int64) = lN (lg 16) from by decide +kernel))
  · exact (va_eqtl (hs (Cond.eq (.elem (.static "StoneSecrets" "LANGUAGE" "[J") (.int 17)) (.long 28530)) (by decide +kernel))).trans (congrArg (fun z => some (Value.long z)) (show (28530 : Int64) = lN (lg 17) from by decide +kernel))
end LWS
theorem lw_arr {args : Array Value} {s : State} (hts0 : ∀ w ∈ lw_tbl, w.before args s = true) : ∀ ty : FieldType, ∃ cA : ClassId, ty ∈ am_tys → ArrOfT s cA ty ∧ va_RA s cA ty := by
  intro ty
  by_cases hm : ty ∈ am_tys
  · unfold am_tys at hm
    simp only [List.mem_cons, List.not_mem_nil, or_false] at hm
    rcases hm with rfl | rfl | rfl | rfl | rfl | rfl
    · obtain ⟨c, k, comp, h1, h2, h3⟩ := Cond.arrayClass_spec (hts0 (.arrayClass .int) (by decide +kernel))
      exact ⟨c, fun _ => ⟨fun n z => ⟨fun k h => (by cases h), k, h2, comp, h3⟩, h1⟩⟩
    · obtain ⟨c, k, comp, h1, h2, h3⟩ := Cond.arrayClass_spec (hts0 (.arrayClass .long) (by decide +kernel))
      exact ⟨c, fun _ => ⟨fun n z => ⟨fun k h => (by cases h), k, h2, comp, h3⟩, h1⟩⟩
    · obtain ⟨c, k, comp, h1, h2, h3⟩ := Cond.arrayClass_spec (hts0 (.arrayClass .char) (by decide +kernel))
      exact ⟨c, fun _ => ⟨fun n z => ⟨fun k h => (by cases h), k, h2, comp, h3⟩, h1⟩⟩
    · obtain ⟨c, k, comp, h1, h2, h3⟩ := Cond.arrayClass_spec (hts0 (.arrayClass .boolean) (by decide +kernel))
      exact ⟨c, fun _ => ⟨fun n z => ⟨fun k h => (by cases h), k, h2, comp, h3⟩, h1⟩⟩
    · obtain ⟨comp, c, k, h1, -, h2, h3, h4⟩ := Cond.arrayOver_spec (hts0 (.arrayOver (.object "StoneSecrets$Wall")) (by decide +kernel))
      exact ⟨c, fun _ => ⟨fun n z => ⟨fun k h => (by cases h), k, h2, comp, h3⟩, k, comp, h2, h3, h1, h4⟩⟩
    · obtain ⟨comp, c, k, h1, -, h2, h3, h4⟩ := Cond.arrayOver_spec (hts0 (.arrayOver (.object "StoneSecrets$Seen")) (by decide +kernel))
      exact ⟨c, fun _ => ⟨fun n z => ⟨fun k h => (by cases h), k, h2, comp, h3⟩, k, comp, h2, h3, h1, h4⟩⟩
  · exact ⟨0, fun h => absurd h hm⟩
theorem lw_nw {args : Array Value} {s : State} (hts0 : ∀ w ∈ lw_tbl, w.before args s = true) : ∀ w ∈ am_nw, va_Nw w s := by
  intro w hw
  have hin : w ∈ lw_tbl := by
    unfold am_nw at hw
    rcases List.mem_append.mp hw with h | h
    · obtain ⟨q, hq, he⟩ := List.mem_filterMap.mp h
      split at he
      · exact am_in_lkm q w hq he
      · cases he
    · rw [List.mem_singleton.mp h]; decide +kernel
  rcases am_nw_kind hw with ⟨a, i, x, k, rfl⟩ | ⟨a, i, b, n, d, k, rfl⟩
  · exact va_any rfl (hts0 _ hin)
  · exact va_any rfl (hts0 _ hin)
theorem lw_cls {args : Array Value} {s : State} (hts : ∀ w ∈ am_gw, w.before args s = true) : ∀ k : Nat, ∃ z : ClassId × (Nat → Nat), ∀ q : vw_C, am_cl[k]? = some q → u_Kn s q.1 q.2.1 q.2.2 z.1 z.2 := by
  intro k
  cases hq : am_cl[k]? with
  | none => exact ⟨(0, fun _ => 0), fun q h => (by cases h)⟩
  | some q =>
    have hP := am_clok hq
    obtain ⟨cC, iS, hK⟩ := u_known (C := q.1) (T := q.2.1) (N := q.2.2) (n := q.2.2) hts hP.1 (hts _ hP.2.2.2.2.1)
    exact ⟨(cC, iS), fun q' h => by injection h with h; rw [← h]; exact hK⟩