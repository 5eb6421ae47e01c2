section AMT
variable {p : Program} {l : Launch} {e : Env} {R : Room} {s : State} {m : MethodId} {args : Array Value} {below : List Frame} {meth : Method} {c : Code}
theorem am_run_of {d k n : Nat} {Y : am_Y} {q : Nat × (Nat → Option am_I)} {vs : List Value} {h : am_H} {r : am_R} (hY : am_nm[k]? = some Y) (hq : am_cd[k]? = some q) (hl : (am_en vs).length ≤ Y.2.2.1) (hs : am_ex (am_run d) Y.2.2.2.1 (am_cut q.1 q.2) n 0 (am_en0 vs Y.2.2.1) [] h = some r) : am_run (d + 1) k vs h = some r := by
  unfold am_run
  rw [hY, hq]
  simp only [if_pos hl]
  have z : ∃ r, ∃ n, am_ex (am_run d) Y.2.2.2.1 (am_cut q.1 q.2) n 0 (am_en0 vs Y.2.2.1) [] h = some r := ⟨r, n, hs⟩
  rw [dif_pos z]
  obtain ⟨n2, h2⟩ := z.choose_spec
  have a1 := am_ex_det n n2 _ _ _ _ _ hs
  have a2 := am_ex_det n2 n _ _ _ _ _ h2
  rw [Nat.add_comm] at a2
  exact a2.symm.trans a1
theorem am_run_inv {d k : Nat} {vs : List Value} {h : am_H} {r : am_R} (hr : am_run (d + 1) k vs h = some r) : ∃ Y q n, am_nm[k]? = some Y ∧ am_cd[k]? = some q ∧ (am_en vs).length ≤ Y.2.2.1 ∧ am_ex (am_run d) Y.2.2.2.1 (am_cut q.1 q.2) n 0 (am_en0 vs Y.2.2.1) [] h = some r := by
  unfold am_run at hr
  split at hr
  · rename_i Y q hY hq
    split at hr
    · rename_i hl
      split at hr
      · rename_i z
        cases hr
        obtain ⟨n, hn⟩ := z.choose_spec
        exact ⟨Y, q, n, hY, hq, hl, hn⟩
      · cases hr
    · cases hr
  · cases hr
theorem am_run_mono : ∀ d, am_cmono (am_run d) := by
  intro d
  induction d with
  | zero => intro k vs h r h' hr; cases hr
  | succ d ih =>
    intro k vs h r h' hr
    obtain ⟨Y, q, n, -, -, -, hs⟩ := am_run_inv hr
    exact am_ex_mono ih _ _ _ _ _ _ _ hs
theorem am_ofW {y : MethodName} {ws ws' : List Cond} {rm : Room} {Pc : Array Value → State → Prop} {Qc : Array Value → State → Outcome → State → Prop} {mc ms : Nat} {free : Addr → Prop} {cc : ByteArray} {maxL : Nat} {ret : Option FieldType}
    (hy : plainFor y = true) (hw : ws = Cond.code y cc maxL ret :: ws')
    (body : ∀ p e s m args below meth c s₁, BodyLoose p l y (headSpec ws rm) cc maxL ret e s m args below meth c s₁ → c.maxLocals = maxL → Pc args s →
      W p l e (headSpec ws rm).room s m args below meth c s.heap [] 0 0 (MQ below Qc args s mc ms free) (entryFrame m args maxL)) : Met l y ws rm Pc Qc mc ms free := by
  refine MetFree.of_bodySF (code := cc) (maxLocals := maxL) (ret := ret) hy ?_ ?_
  · intro args s m h hn
    obtain ⟨meth, c, h1, h2, h3, h4, h5, h6, -, -⟩ := Cond.code_spec hn (atoms_spec (ws := ws) h _ (by rw [hw]; exact List.mem_cons_self))
    exact ⟨meth, c, h1, h2, h3, h4, h5, h6⟩
  · intro p e s m args below meth c s₁ B hml hP _
    have hh0 : s₁.heap = s.heap := by rw [B.state]; rfl
    obtain ⟨t, a1, o, b1, b2, b3⟩ := body p e s m args below meth c s₁ B hml hP s₁ hh0 (Stand.of_body B)
    exact ⟨t, o, a1, b1, b2, ⟨b3.1, b3.2⟩⟩
/-! the locals at a method's begin -/
theorem am_en_c2 {w : Value} {vs : List Value} (hc : w.category = 2) : am_en (w :: vs) = some w :: none :: am_en vs := by
  cases w <;> first | rfl | cases hc
theorem am_en_c1 {w : Value} {vs : List Value} (hc : ¬ w.category = 2) : am_en (w :: vs) = some w :: am_en vs := by
  cases w <;> first | rfl | exact absurd rfl hc
theorem am_en_args (ρ : Nat → Nat) : ∀ (vs : List Value) (k i : Nat) (v : Value), (am_en vs)[i]? = some (some v) → (k + i, am_rv ρ v) ∈ lv_args k (vs.map (am_rv ρ)) := by
  intro vs
  induction vs with
  | nil => intro k i v h; simp [am_en] at h
  | cons w vs ih =>
    intro k i v h
    rw [List.map_cons]
    unfold lv_args
    rw [am_rv_cat]
    by_cases hc : w.category = 2
    · rw [if_pos hc]
      rw [am_en_c2 hc] at h
      match i, h with
      | 0, h => cases h; exact List.mem_cons_self
      | 1, h => cases h
      | i + 2, h =>
        have h : (am_en vs)[i]? = some (some v) := by simpa using h
        have z := ih (k + 2) i v h
        rw [show k + (i + 2) = k + 2 + i by omega]
        exact List.mem_cons_of_mem _ z
    · rw [if_neg hc]
      rw [am_en_c1 hc] at h
      match i, h with
      | 0, h => cases h; exact List.mem_cons_self
      | i + 1, h =>
        have h : (am_en vs)[i]? = some (some v) := by simpa using h
        have z := ih (k + 1) i v h
        rw [show k + (i + 1) = k + 1 + i by omega]
        exact List.mem_cons_of_mem _ z
theorem am_en_len (ρ : Nat → Nat) : ∀ (vs : List Value), (lg_sl (vs.map (am_rv ρ))).length = (am_en vs).length := by
  intro vs
  induction vs with
  | nil => rfl
  | cons w vs ih =>
    have e1 : (am_en (w :: vs)).length = (if w.category = 2 then 2 else 1) + (am_en vs).length := by cases w <;> simp [am_en, Value.category] <;> omega
    have e2 : (lg_sl ((w :: vs).map (am_rv ρ))).length = (if w.category = 2 then 2 else 1) + (lg_sl (vs.map (am_rv ρ))).length := by
      rw [List.map_cons]
      unfold lg_sl
      rw [List.flatMap_cons, List.length_append, am_rv_cat]
      by_cases hc : w.category = 2 <;> simp [hc]
    rw [e1, e2, ih]
theorem am_entry {ρ : Nat → Nat} {vs : List Value} {n : Nat} (hl : (am_en vs).length ≤ n) : am_lok ρ ((lg_sl (vs.map (am_rv ρ)) ++ List.replicate (n - (lg_sl (vs.map (am_rv ρ))).length) Slot.unset).toArray) n (am_en0 vs n) := by
  have hl2 : (lg_sl (vs.map (am_rv ρ))).length ≤ n := by rw [am_en_len]; exact hl
  obtain ⟨h1, h2, h3⟩ := lv_entry (vs.map (am_rv ρ)) hl2
  refine ⟨by unfold am_en0; simp; omega, h1, h2, fun i v hi => ?_⟩
  unfold am_en0 at hi
  rcases Nat.lt_or_ge i (am_en vs).length with z | z
  · rw [List.getElem?_append_left z] at hi
    have q := am_en_args ρ vs 0 i v hi
    rw [Nat.zero_add] at q
    exact h3 _ q
  · rw [List.getElem?_append_right z] at hi
    have q := List.eq_of_mem_replicate (List.mem_of_getElem? hi)
    cases q
theorem am_cut_chk {oc len : Nat} {ini : Bool} {cc : ByteArray} {f : Nat → Option am_I} (h : am_dchk oc ini cc len f = true) {pc : Nat} {E : am_I} (hE : am_cut len f pc = some E) : am_chk oc ini cc pc E = true := by
  unfold am_cut at hE
  cases hb : Nat.blt pc len with
  | false => rw [hb] at hE; cases hE
  | true =>
    rw [hb] at hE
    have hE : f pc = some E := hE
    have hlt : pc < len := Nat.le_of_ble_eq_true hb
    unfold am_dchk at h
    have h1 := List.all_eq_true.mp h pc (List.mem_range.mpr hlt)
    rw [hE] at h1
    exact h1
end AMT
