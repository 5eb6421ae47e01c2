/-! ===== the law of falling: steps of a stack ===== -/
def lwF (w c b t : Int32) (x : Int) : Int32 := if x = -1 then w else if x = -2 then c else if x = -3 then b else t
def lwJ (x : Int) (a b : Int32) : Int32 :=
  if x = -6 then sB (decide (a ≠ 0) && decide (b ≠ 0)) else if x = -7 then sB (decide (a ≠ 0) || decide (b ≠ 0)) else if x = -8 then sB (decide (a < b)) else if x = -9 then sB (decide (a = b)) else if x = -10 then a + b else if x = -11 then a - b else a * b
/-- one step; the stack's top is the list's head -/
def lwS (w c b t : Int32) (x : Int) (k : List Int32) : Option (List Int32) :=
  if 0 ≤ x then (if k.length < 32 then some (nI x.toNat :: k) else none)
  else if -4 ≤ x then (if k.length < 32 then some (lwF w c b t x :: k) else none)
  else if x = -5 then (match k with
    | v :: r => some (sB (decide (v = 0)) :: r)
    | [] => none)
  else (match k with
    | y :: v :: r => some (lwJ x v y :: r)
    | _ => none)
def lwE (w c b t : Int32) : List Int → List Int32 → Option (List Int32)
  | [], k => some k
  | x :: p, k => match lwS w c b t x k with
    | some k' => lwE w c b t p k'
    | none => none
/-- how deep the stack is behind each step; a law is well made if it leaves one -/
def lwD : List Int → Nat → Option Nat
  | [], k => some k
  | x :: p, k => if -4 ≤ x then (if k < 32 then lwD p (k + 1) else none) else if x = -5 then (if 1 ≤ k then lwD p k else none) else (if 2 ≤ k then lwD p (k - 1) else none)
def lwOk (p : List Int) : Prop := lwD p 0 = some 1 ∧ p.length ≤ 1000 ∧ ∀ x ∈ p, -12 ≤ x ∧ x < 10000
def lwV (p : List Int) (w c b t : Int32) : Bool := match lwE w c b t p [] with
  | some (v :: _) => decide (v ≠ 0)
  | _ => false
/-- as the class holds it (cell 13, its steps in 14) -/
def xL (μ : am_M2) (p : List Int) : Prop := μ 13 2 = nI p.length ∧ ∀ j (h : j < p.length), μ 14 j = Int32.ofInt p[j]
theorem lwD_some : ∀ (p : List Int) (k : List Int32) {m : Nat} (w c b t : Int32), lwD p k.length = some m → ∃ k', lwE w c b t p k = some k' ∧ k'.length = m
  | [], k, m, w, c, b, t, h => ⟨k, rfl, by simpa [lwD] using h⟩
  | x :: p, k, m, w, c, b, t, h => by
    unfold lwD at h
    unfold lwE lwS
    by_cases h1 : -4 ≤ x
    · rw [if_pos h1] at h
      split at h
      · rename_i h2
        by_cases h3 : 0 ≤ x
        · rw [if_pos h3, if_pos h2]; exact lwD_some p (_ :: k) w c b t h
        · rw [if_neg h3, if_pos h1, if_pos h2]; exact lwD_some p (_ :: k) w c b t h
      · cases h
    · rw [if_neg h1] at h
      rw [if_neg (by omega), if_neg h1]
      by_cases h4 : x = -5
      · rw [if_pos h4] at h
        rw [if_pos h4]
        split at h
        · match k, h with
          | v :: r, h => exact lwD_some p (_ :: r) w c b t h
        · cases h
      · rw [if_neg h4] at h
        rw [if_neg h4]
        split at h
        · match k, h with
          | y :: v :: r, h => exact lwD_some p (_ :: r) w c b t h
        · cases h
theorem s_fact1 (d : Nat) (w c b t : Int32) (h : am_H) : am_run (d + 1) 89 [.int (-1), .int w, .int c, .int b, .int t] (h) = some (some (.int w), h) := by
  refine am_r89 (d := d + 0) (Nat.le_of_ble_eq_true rfl) [some (.int (-1)), some (.int w), some (.int c), some (.int b), some (.int t)] rfl ?_
  refine am_q_iload_n rfl rfl ?_
  refine am_q_tsw (t := 28) rfl (by decide) ?_
  refine am_q_iload_n rfl rfl ?_
  refine am_q_ireturn rfl rfl rfl ?_
  rfl

theorem s_fact2 (d : Nat) (w c b t : Int32) (h : am_H) : am_run (d + 1) 89 [.int (-2), .int w, .int c, .int b, .int t] (h) = some (some (.int c), h) := by
  refine am_r89 (d := d + 0) (Nat.le_of_ble_eq_true rfl) [some (.int (-2)), some (.int w), some (.int c), some (.int b), some (.int t)] rfl ?_
  refine am_q_iload_n rfl rfl ?_
  refine am_q_tsw (t := 30) rfl (by decide) ?_
  refine am_q_iload_n rfl rfl ?_
  refine am_q_ireturn rfl rfl rfl ?_
  rfl

theorem s_fact3 (d : Nat) (w c b t : Int32) (h : am_H) : am_run (d + 1) 89 [.int (-3), .int w, .int c, .int b, .int t] (h) = some (some (.int b), h) := by
  refine am_r89 (d := d + 0) (Nat.le_of_ble_eq_true rfl) [some (.int (-3)), some (.int w), some (.int c), some (.int b), some (.int t)] rfl ?_
  refine am_q_iload_n rfl rfl ?_
  refine am_q_tsw (t := 32) rfl (by decide) ?_
  refine am_q_iload_n rfl rfl ?_
  refine am_q_ireturn rfl rfl rfl ?_
  rfl

theorem s_fact4 (d : Nat) (w c b t : Int32) (h : am_H) : am_run (d + 1) 89 [.int (-4), .int w, .int c, .int b, .int t] (h) = some (some (.int t), h) := by
  refine am_r89 (d := d + 0) (Nat.le_of_ble_eq_true rfl) [some (.int (-4)), some (.int w), some (.int c), some (.int b), some (.int t)] rfl ?_
  refine am_q_iload_n rfl rfl ?_
  refine am_q_tsw (t := 34) rfl (by decide) ?_
  refine am_q_iload rfl rfl ?_
  refine am_q_ireturn rfl rfl rfl ?_
  rfl

theorem s_factOf (d : Nat) (x : Int) (h1 : -4 ≤ x) (h2 : x < 0) (w c b t : Int32) (h : am_H) : am_run (d + 1) 89 [.int (Int32.ofInt x), .int w, .int c, .int b, .int t] h = some (some (.int (lwF w c b t x)), h) := by
  rcases (show x = -1 ∨ x = -2 ∨ x = -3 ∨ x = -4 by omega) with rfl | rfl | rfl | rfl
  · exact s_fact1 d w c b t h
  · exact s_fact2 d w c b t h
  · exact s_fact3 d w c b t h
  · exact s_fact4 d w c b t h
theorem s_join6 (d : Nat) (a b : Int32) (h : am_H) : am_run (d + 1) 90 [.int (-6), .int a, .int b] (h) = some (some (.int (lwJ (-6) a b)), h) := by
  refine am_r90 (d := d + 0) (Nat.le_of_ble_eq_true rfl) [some (.int (-6)), some (.int a), some (.int b)] rfl ?_
  refine am_q_iload_n rfl rfl ?_
  refine am_q_tsw (t := 40) rfl (by decide) ?_
  refine am_q_iload_n rfl rfl ?_
  refine am_q_if_eq rfl (fun c_41 => ?_) (fun c_41 => ?_)
  · refine am_q_iconst (v := nI 0) rfl rfl ?_
    refine am_q_ireturn rfl rfl rfl ?_
    first | (simp_all [lwJ, sB]; done) | (rw [show lwJ (-8) a b = sB (decide (a < b)) from rfl, decide_eq_false (Int32.not_lt.mpr c_70)]; rfl)
  · refine am_q_iload_n rfl rfl ?_
    refine am_q_if_eq rfl (fun c_45 => ?_) (fun c_45 => ?_)
    · refine am_q_iconst (v := nI 0) rfl rfl ?_
      refine am_q_ireturn rfl rfl rfl ?_
      first | (simp_all [lwJ, sB]; done) | (rw [show lwJ (-8) a b = sB (decide (a < b)) from rfl, decide_eq_false (Int32.not_lt.mpr c_70)]; rfl)
    · refine am_q_iconst (v := nI 1) rfl rfl ?_
      refine am_q_goto rfl ?_
      refine am_q_ireturn rfl rfl rfl ?_
      first | (simp_all [lwJ, sB]; done) | (rw [show lwJ (-8) a b = sB (decide (a < b)) from rfl, decide_eq_false (Int32.not_lt.mpr c_70)]; rfl)

theorem s_join7 (d : Nat) (a b : Int32) (h : am_H) : am_run (d + 1) 90 [.int (-7), .int a, .int b] (h) = some (some (.int (lwJ (-7) a b)), h) := by
  refine am_r90 (d := d + 0) (Nat.le_of_ble_eq_true rfl) [some (.int (-7)), some (.int a), some (.int b)] rfl ?_
  refine am_q_iload_n rfl rfl ?_
  refine am_q_tsw (t := 54) rfl (by decide) ?_
  refine am_q_iload_n rfl rfl ?_
  refine am_q_if_ne rfl (fun c_55 => ?_) (fun c_55 => ?_)
  · refine am_q_iconst (v := nI 1) rfl rfl ?_
    refine am_q_goto rfl ?_
    refine am_q_ireturn rfl rfl rfl ?_
    first | (simp_all [lwJ, sB]; done) | (rw [show lwJ (-8) a b = sB (decide (a < b)) from rfl, decide_eq_false (Int32.not_lt.mpr c_70)]; rfl)
  · refine am_q_iload_n rfl rfl ?_
    refine am_q_if_eq rfl (fun c_59 => ?_) (fun c_59 => ?_)
    · refine am_q_iconst (v := nI 0) rfl rfl ?_
      refine am_q_ireturn rfl rfl rfl ?_
      first | (simp_all [lwJ, sB]; done) | (rw [show lwJ (-8) a b = sB (decide (a < b)) from rfl, decide_eq_false (Int32.not_lt.mpr c_70)]; rfl)
    · refine am_q_iconst (v := nI 1) rfl rfl ?_
      refine am_q_goto rfl ?_
      refine am_q_ireturn rfl rfl rfl ?_
      first | (simp_all [lwJ, sB]; done) | (rw [show lwJ (-8) a b = sB (decide (a < b)) from rfl, decide_eq_false (Int32.not_lt.mpr c_70)]; rfl)

theorem s_join8 (d : Nat) (a b : Int32) (h : am_H) : am_run (d + 1) 90 [.int (-8), .int a, .int b] (h) = some (some (.int (lwJ (-8) a b)), h) := by
  refine am_r90 (d := d + 0) (Nat.le_of_ble_eq_true rfl) [some (.int (-8)), some (.int a), some (.int b)] rfl ?_
  refine am_q_iload_n rfl rfl ?_
  refine am_q_tsw (t := 68) rfl (by decide) ?_
  refine am_q_iload_n rfl rfl ?_
  refine am_q_iload_n rfl rfl ?_
  refine am_q_icmp_ge rfl (fun c_70 => ?_) (fun c_70 => ?_)
  · refine am_q_iconst (v := nI 0) rfl rfl ?_
    refine am_q_ireturn rfl rfl rfl ?_
    first | (simp_all [lwJ, sB]; done) | (rw [show lwJ (-8) a b = sB (decide (a < b)) from rfl, decide_eq_false (Int32.not_lt.mpr c_70)]; rfl)
  · refine am_q_iconst (v := nI 1) rfl rfl ?_
    refine am_q_goto rfl ?_
    refine am_q_ireturn rfl rfl rfl ?_
    first | (simp_all [lwJ, sB]; done) | (rw [show lwJ (-8) a b = sB (decide (a < b)) from rfl, decide_eq_false (Int32.not_lt.mpr c_70)]; rfl)

theorem s_join9 (d : Nat) (a b : Int32) (h : am_H) : am_run (d + 1) 90 [.int (-9), .int a, .int b] (h) = some (some (.int (lwJ (-9) a b)), h) := by
  refine am_r90 (d := d + 0) (Nat.le_of_ble_eq_true rfl) [some (.int (-9)), some (.int a), some (.int b)] rfl ?_
  refine am_q_iload_n rfl rfl ?_
  refine am_q_tsw (t := 79) rfl (by decide) ?_
  refine am_q_iload_n rfl rfl ?_
  refine am_q_iload_n rfl rfl ?_
  refine am_q_icmp_ne rfl (fun c_81 => ?_) (fun c_81 => ?_)
  · refine am_q_iconst (v := nI 0) rfl rfl ?_
    refine am_q_ireturn rfl rfl rfl ?_
    first | (simp_all [lwJ, sB]; done) | (rw [show lwJ (-8) a b = sB (decide (a < b)) from rfl, decide_eq_false (Int32.not_lt.mpr c_70)]; rfl)
  · refine am_q_iconst (v := nI 1) rfl rfl ?_
    refine am_q_goto rfl ?_
    refine am_q_ireturn rfl rfl rfl ?_
    first | (simp_all [lwJ, sB]; done) | (rw [show lwJ (-8) a b = sB (decide (a < b)) from rfl, decide_eq_false (Int32.not_lt.mpr c_70)]; rfl)

theorem s_join10 (d : Nat) (a b : Int32) (h : am_H) : am_run (d + 1) 90 [.int (-10), .int a, .int b] (h) = some (some (.int (lwJ (-10) a b)), h) := by
  refine am_r90 (d := d + 0) (Nat.le_of_ble_eq_true rfl) [some (.int (-10)), some (.int a), some (.int b)] rfl ?_
  refine am_q_iload_n rfl rfl ?_
  refine am_q_tsw (t := 90) rfl (by decide) ?_
  refine am_q_iload_n rfl rfl ?_
  refine am_q_iload_n rfl rfl ?_
  refine am_q_iadd rfl rfl ?_
  refine am_q_ireturn rfl rfl rfl ?_
  rfl

theorem s_join11 (d : Nat) (a b : Int32) (h : am_H) : am_run (d + 1) 90 [.int (-11), .int a, .int b] (h) = some (some (.int (lwJ (-11) a b)), h) := by
  refine am_r90 (d := d + 0) (Nat.le_of_ble_eq_true rfl) [some (.int (-11)), some (.int a), some (.int b)] rfl ?_
  refine am_q_iload_n rfl rfl ?_
  refine am_q_tsw (t := 94) rfl (by decide) ?_
  refine am_q_iload_n rfl rfl ?_
  refine am_q_iload_n rfl rfl ?_
  refine am_q_isub rfl rfl ?_
  refine am_q_ireturn rfl rfl rfl ?_
  rfl

theorem s_join12 (d : Nat) (a b : Int32) (h : am_H) : am_run (d + 1) 90 [.int (-12), .int a, .int b] (h) = some (some (.int (lwJ (-12) a b)), h) := by
  refine am_r90 (d := d + 0) (Nat.le_of_ble_eq_true rfl) [some (.int (-12)), some (.int a), some (.int b)] rfl ?_
  refine am_q_iload_n rfl rfl ?_
  refine am_q_tsw (t := 98) rfl (by decide) ?_
  refine am_q_iload_n rfl rfl ?_
  refine am_q_iload_n rfl rfl ?_
  refine am_q_imul rfl rfl ?_
  refine am_q_ireturn rfl rfl rfl ?_
  rfl

theorem s_join (d : Nat) (x : Int) (h1 : -12 ≤ x) (h2 : x < -5) (a b : Int32) (h : am_H) : am_run (d + 1) 90 [.int (Int32.ofInt x), .int a, .int b] h = some (some (.int (lwJ x a b)), h) := by
  rcases (show x = -6 ∨ x = -7 ∨ x = -8 ∨ x = -9 ∨ x = -10 ∨ x = -11 ∨ x = -12 by omega) with rfl | rfl | rfl | rfl | rfl | rfl | rfl
  · exact s_join6 d a b h
  · exact s_join7 d a b h
  · exact s_join8 d a b h
  · exact s_join9 d a b h
  · exact s_join10 d a b h
  · exact s_join11 d a b h
  · exact s_join12 d a b h
/-- the row holds the stack -/
def lwR (g : Nat → Int32) (k : List Int32) : Prop := ∀ q v, k.reverse[q]? = some v → g q = v
theorem lwR_push {g : Nat → Int32} {k : List Int32} (h : lwR g k) (v : Int32) : lwR (upd g k.length v) (v :: k) := by
  intro q u hu
  rw [List.reverse_cons] at hu
  rcases Nat.lt_or_ge q k.length with z | z
  · rw [List.getElem?_append_left (by simpa using z)] at hu
    rw [pk_un (by omega)]
    exact h q u hu
  · rw [List.getElem?_append_right (by simpa using z)] at hu
    simp only [List.length_reverse] at hu
    have z2 : q - k.length < 1 := (List.getElem?_eq_some_iff.mp hu).1
    have z3 : q = k.length := by omega
    subst z3
    rw [Nat.sub_self] at hu
    cases hu
    exact pk_us
theorem lwR_pop {g : Nat → Int32} {v : Int32} {k : List Int32} (h : lwR g (v :: k)) : lwR g k ∧ g k.length = v := by
  refine ⟨fun q u hu => h q u ?_, h _ _ ?_⟩
  · rw [List.reverse_cons, List.getElem?_append_left (by have := (List.getElem?_eq_some_iff.mp hu).1; exact this)]
    exact hu
  · rw [List.reverse_cons, List.getElem?_append_right (by simp)]
    simp
theorem lw_ofInt {x : Int} (h1 : -12 ≤ x) (h2 : x < 10000) : (Int32.ofInt x).toInt = x := by
  rw [Int32.toInt_ofInt]
  exact Int.bmod_eq_of_le (by simp [Int32.size]; omega) (by simp [Int32.size]; omega)
theorem lwE_num {w c b t : Int32} {x : Int} {p : List Int} {k : List Int32} (h1 : 0 ≤ x) (hk : k.length < 32) : lwE w c b t (x :: p) k = lwE w c b t p (nI x.toNat :: k) := by
  have e : lwS w c b t x k = some (nI x.toNat :: k) := by unfold lwS; rw [if_pos h1, if_pos hk]
  rw [lwE, e]
theorem lwE_fact {w c b t : Int32} {x : Int} {p : List Int} {k : List Int32} (h0 : x < 0) (h1 : -4 ≤ x) (hk : k.length < 32) : lwE w c b t (x :: p) k = lwE w c b t p (lwF w c b t x :: k) := by
  have e : lwS w c b t x k = some (lwF w c b t x :: k) := by unfold lwS; rw [if_neg (by omega), if_pos h1, if_pos hk]
  rw [lwE, e]
theorem lwE_not {w c b t : Int32} {x : Int} {p : List Int} {v : Int32} {k : List Int32} (h0 : x = -5) : lwE w c b t (x :: p) (v :: k) = lwE w c b t p (sB (decide (v = 0)) :: k) := by
  rw [lwE, lwS, if_neg (by omega), if_neg (by omega), if_pos h0]
theorem lwE_join {w c b t : Int32} {x : Int} {p : List Int} {v y : Int32} {k : List Int32} (h0 : x < -5) : lwE w c b t (x :: p) (y :: v :: k) = lwE w c b t p (lwJ x v y :: k) := by
  rw [lwE, lwS, if_neg (by omega), if_neg (by omega), if_neg (by omega)]
theorem lw_nn {x : Int} (h1 : 0 ≤ x) : Int32.ofInt x = nI x.toNat := by
  obtain ⟨n, rfl⟩ := Int.eq_ofNat_of_zero_le h1
  rfl
theorem lw_drop {p : List Int} {j : Nat} (h : j < p.length) : p.drop j = p[j] :: p.drop (j + 1) := List.drop_eq_getElem_cons h
theorem s_holdsL (d n : Nat) (w c b t : Int32) {p : List Int} {μ : am_M2} (ν : am_N2) (hL : xL μ p) (hp : lwOk p) : ∀ (m j : Nat) (k : List Int32) (g : Nat → Int32) (o7 : Option Value), j + m = p.length → lwR g k ∧ lwD (p.drop j) k.length = some 1 ∧ lwE w c b t (p.drop j) k = lwE w c b t p [] ∧ k.length ≤ 32 → am_w (d + 1) (Option.some FieldType.boolean) am_g88 6 [some (.ref 13), some (.int w), some (.int c), some (.int b), some (.int t), some (.int (nI k.length)), some (.int (nI j)), o7] [] (am_hp n (am_rw μ 15 g) ν) (fun y => ∃ g, y = (some (.int (sB (lwV p w c b t))), am_hp n (am_rw μ 15 g) ν)) := by
  intro m
  induction m with
  | zero =>
    intro j k g o7 hj hinv
    obtain ⟨hR, hD, hE, h32⟩ := hinv
    have hl := hp.2.1
    rw [List.drop_eq_nil_of_le (by omega)] at hD hE
    have hk1 : k.length = 1 := by simpa [lwD] using hD
    obtain ⟨v, rfl⟩ : ∃ v, k = [v] := List.length_eq_one_iff.mp hk1
    have e1 : g 0 = v := hR 0 v rfl
    have hV : lwV p w c b t = decide (v ≠ 0) := by (unfold lwV; rw [← hE]; rfl)
    rw [hV]
    refine am_q_iload rfl rfl ?_
    refine am_q_aload_n rfl rfl ?_
    refine am_q_gi rfl rfl rfl hL.1 ?_
    refine am_q_icmp_ge rfl (fun c_12 => ?_) (fun c_12 => absurd (nI_le (by omega) (by omega)) c_12)
    refine am_q_iload rfl rfl ?_
    refine am_q_if_le rfl (fun c_166 => absurd c_166 ((by rw [hk1]; decide))) (fun c_166 => ?_)
    refine am_q_aload_n rfl rfl ?_
    refine am_q_gr rfl rfl rfl ?_
    refine am_q_iconst (v := nI 0) rfl rfl ?_
    refine am_q_iald rfl rfl (am_ix_nI (by omega) (by omega)) e1 ?_
    refine am_q_if_eq rfl (fun c_175 => ?_) (fun c_175 => ?_)
    · refine am_q_iconst (v := nI 0) rfl rfl ?_
      refine am_q_ireturn rfl rfl rfl ?_
      refine ⟨g, ?_⟩
      first | (rw [decide_eq_true (by assumption)]; rfl) | (rw [decide_eq_false (fun q => q (by assumption))]; rfl)
    · refine am_q_iconst (v := nI 1) rfl rfl ?_
      refine am_q_goto rfl ?_
      refine am_q_ireturn rfl rfl rfl ?_
      refine ⟨g, ?_⟩
      first | (rw [decide_eq_true (by assumption)]; rfl) | (rw [decide_eq_false (fun q => q (by assumption))]; rfl)
  | succ m ih =>
    intro j k g o7 hj hinv
    obtain ⟨hR, hD, hE, h32⟩ := hinv
    have hl := hp.2.1
    have hjl : j < p.length := by omega
    obtain ⟨hx1, hx2⟩ := hp.2.2 _ (List.getElem_mem hjl)
    refine am_q_iload rfl rfl ?_
    refine am_q_aload_n rfl rfl ?_
    refine am_q_gi rfl rfl rfl hL.1 ?_
    refine am_q_icmp_ge rfl (fun c_12 => absurd c_12 (nI_ge (by omega) (by omega))) (fun c_12 => ?_)
    refine am_q_aload_n rfl rfl ?_
    refine am_q_gr rfl rfl rfl ?_
    refine am_q_iload rfl rfl ?_
    refine am_q_iald rfl rfl (by first | exact am_ix_nI (by omega) (by omega) | rfl) (hL.2 j (by omega)) ?_
    refine am_q_istore [some _, some _, some _, some _, some _, some _, some _, some _] rfl (Nat.le_of_ble_eq_true rfl) rfl ?_
    refine am_q_iload rfl rfl ?_
    refine am_q_bipush (v := -4) rfl rfl ?_
    refine am_q_icmp_lt rfl (fun c_28 => ?_) (fun c_28 => ?_)
    · have c_28 : p[j] < -4 := by rw [fa_lt, lw_ofInt hx1 hx2] at c_28; exact c_28
      refine am_q_iload rfl rfl ?_
      refine am_q_bipush (v := -5) rfl rfl ?_
      refine am_q_icmp_ne rfl (fun c_77 => ?_) (fun c_77 => ?_)
      · have c_77 : ¬ p[j] = -5 := fun q => c_77 (by rw [q]; rfl)
        rw [lw_drop hjl] at hD hE
        unfold lwD at hD
        rw [if_neg (by omega), if_neg c_77] at hD
        have hk : 2 ≤ k.length := by (split at hD; assumption; cases hD)
        rw [if_pos hk] at hD
        obtain ⟨y, v, r, rfl⟩ : ∃ y v r, k = y :: v :: r := by (match k, hk with | y :: v :: r, _ => exact ⟨y, v, r, rfl⟩)
        rw [lwE_join (by omega)] at hE
        obtain ⟨hR1, e1⟩ := lwR_pop hR
        obtain ⟨hR2, e2⟩ := lwR_pop hR1
        have hlr : r.length < 31 := by (simp at h32; omega)
        refine am_q_iload rfl rfl ?_
        refine am_q_iconst (v := nI 2) rfl rfl ?_
        refine am_q_icmp_ge rfl (fun c_120 => ?_) (fun c_120 => absurd (nI_le hk (by omega)) c_120)
        refine am_q_iinc [some _, some _, some _, some _, some _, some _, some _, some _] rfl (c := -1) rfl rfl (Nat.le_of_ble_eq_true rfl) (show nI (y :: v :: r).length + -1 = nI (r.length + 1) from pk_m1 _) rfl ?_
        refine am_q_aload_n rfl rfl ?_
        refine am_q_gr rfl rfl rfl ?_
        refine am_q_iload rfl rfl ?_
        refine am_q_iconst (v := nI 1) rfl rfl ?_
        refine am_q_isub rfl (nI_pred r.length) ?_
        refine am_q_iload rfl rfl ?_
        refine am_q_aload_n rfl rfl ?_
        refine am_q_gr rfl rfl rfl ?_
        refine am_q_iload rfl rfl ?_
        refine am_q_iconst (v := nI 1) rfl rfl ?_
        refine am_q_isub rfl (nI_pred r.length) ?_
        refine am_q_iald rfl rfl (am_ix_nI (by omega) (by omega)) e2 ?_
        refine am_q_aload_n rfl rfl ?_
        refine am_q_gr rfl rfl rfl ?_
        refine am_q_iload rfl rfl ?_
        refine am_q_iald rfl rfl (am_ix_nI (show r.length + 1 < 32 by omega) (by omega)) e1 ?_
        refine am_q_call rfl rfl (s_join d _ hx1 (by omega) v y _) rfl ?_
        refine am_q_iast rfl rfl (am_ix_nI (by omega) (by omega)) rfl ?_
        rw [am_rw_up]
        have hB := fun o => ih (j + 1) _ _ o (by omega) ⟨lwR_push hR2 _, hD, hE, by (simp at h32 ⊢; omega)⟩
        refine am_q_iinc [some _, some _, some _, some _, some _, some _, some _, some _] rfl (c := nI 1) rfl rfl (Nat.le_of_ble_eq_true rfl) (nI_add _ _) rfl ?_
        refine am_q_goto rfl ?_
        exact hB _
      · have c_77 : p[j] = -5 := by (rw [fa_eq, lw_ofInt hx1 hx2] at c_77; exact c_77)
        rw [lw_drop hjl] at hD hE
        unfold lwD at hD
        rw [if_neg (by omega), if_pos c_77] at hD
        have hk : 1 ≤ k.length := by (split at hD; assumption; cases hD)
        rw [if_pos hk] at hD
        obtain ⟨v, r, rfl⟩ : ∃ v r, k = v :: r := by (match k, hk with | v :: r, _ => exact ⟨v, r, rfl⟩)
        rw [lwE_not c_77] at hE
        obtain ⟨hR1, e1⟩ := lwR_pop hR
        have hlr : r.length < 32 := by (simp at h32; omega)
        refine am_q_iload rfl rfl ?_
        refine am_q_iconst (v := nI 1) rfl rfl ?_
        refine am_q_icmp_ge rfl (fun c_83 => ?_) (fun c_83 => absurd (nI_le hk (by omega)) c_83)
        refine am_q_aload_n rfl rfl ?_
        refine am_q_gr rfl rfl rfl ?_
        refine am_q_iload rfl rfl ?_
        refine am_q_iconst (v := nI 1) rfl rfl ?_
        refine am_q_isub rfl (show nI (v :: r).length - nI 1 = nI r.length from nI_pred r.length) ?_
        refine am_q_aload_n rfl rfl ?_
        refine am_q_gr rfl rfl rfl ?_
        refine am_q_iload rfl rfl ?_
        refine am_q_iconst (v := nI 1) rfl rfl ?_
        refine am_q_isub rfl (show nI (v :: r).length - nI 1 = nI r.length from nI_pred r.length) ?_
        refine am_q_iald rfl rfl (am_ix_nI hlr (by omega)) e1 ?_
        refine am_q_if_ne rfl (fun c_105 => ?_) (fun c_105 => ?_)
        · rw [show sB (decide (v = 0)) = nI 0 by rw [decide_eq_false c_105]; rfl] at hE
          refine am_q_iconst (v := nI 0) rfl rfl ?_
          refine am_q_iast rfl rfl (am_ix_nI hlr (by omega)) rfl ?_
          rw [am_rw_up]
          have hB := fun u (hu : lwE w c b t (List.drop (j + 1) p) (u :: r) = lwE w c b t p []) o => ih (j + 1) (u :: r) (upd g r.length u) o (by omega) ⟨lwR_push hR1 u, hD, hu, by (simp at h32 ⊢; omega)⟩
          have hB := hB _ hE
          refine am_q_goto rfl ?_
          refine am_q_iinc [some _, some _, some _, some _, some _, some _, some _, some _] rfl (c := nI 1) rfl rfl (Nat.le_of_ble_eq_true rfl) (nI_add _ _) rfl ?_
          refine am_q_goto rfl ?_
          exact hB _
        · rw [show sB (decide (v = 0)) = nI 1 by rw [decide_eq_true c_105]; rfl] at hE
          refine am_q_iconst (v := nI 1) rfl rfl ?_
          refine am_q_goto rfl ?_
          refine am_q_iast rfl rfl (am_ix_nI hlr (by omega)) rfl ?_
          rw [am_rw_up]
          have hB := fun u (hu : lwE w c b t (List.drop (j + 1) p) (u :: r) = lwE w c b t p []) o => ih (j + 1) (u :: r) (upd g r.length u) o (by omega) ⟨lwR_push hR1 u, hD, hu, by (simp at h32 ⊢; omega)⟩
          have hB := hB _ hE
          refine am_q_goto rfl ?_
          refine am_q_iinc [some _, some _, some _, some _, some _, some _, some _, some _] rfl (c := nI 1) rfl rfl (Nat.le_of_ble_eq_true rfl) (nI_add _ _) rfl ?_
          refine am_q_goto rfl ?_
          exact hB _
    · have c_28 : -4 ≤ p[j] := by rw [fa_lt, lw_ofInt hx1 hx2] at c_28; exact Int.not_lt.mp c_28
      rw [lw_drop hjl] at hD hE
      unfold lwD at hD
      rw [if_pos c_28] at hD
      have hk : k.length < 32 := by (split at hD; assumption; cases hD)
      rw [if_pos hk] at hD
      refine am_q_iload rfl rfl ?_
      refine am_q_bipush (v := nI 32) rfl rfl ?_
      refine am_q_icmp_lt rfl (fun c_35 => ?_) (fun c_35 => absurd (nI_lt hk (by omega)) c_35)
      refine am_q_aload_n rfl rfl ?_
      refine am_q_gr rfl rfl rfl ?_
      refine am_q_iload rfl rfl ?_
      refine am_q_iload rfl rfl ?_
      refine am_q_if_lt rfl (fun c_48 => ?_) (fun c_48 => ?_)
      · have c_48 : p[j] < 0 := by rw [fa_lt, lw_ofInt hx1 hx2] at c_48; exact c_48
        rw [lwE_fact c_48 c_28 hk] at hE
        refine am_q_iload rfl rfl ?_
        refine am_q_iload_n rfl rfl ?_
        refine am_q_iload_n rfl rfl ?_
        refine am_q_iload_n rfl rfl ?_
        refine am_q_iload rfl rfl ?_
        refine am_q_call rfl rfl (s_factOf d _ c_28 c_48 w c b t _) rfl ?_
        refine am_q_iast rfl rfl (am_ix_nI hk (by omega)) rfl ?_
        rw [am_rw_up]
        have hB := fun o => ih (j + 1) _ _ o (by omega) ⟨lwR_push hR _, hD, hE, by (simp; omega)⟩
        refine am_q_iinc [some _, some _, some _, some _, some _, some _, some _, some _] rfl (c := nI 1) rfl rfl (Nat.le_of_ble_eq_true rfl) (nI_add _ _) rfl ?_
        refine am_q_goto rfl ?_
        refine am_q_iinc [some _, some _, some _, some _, some _, some _, some _, some _] rfl (c := nI 1) rfl rfl (Nat.le_of_ble_eq_true rfl) (nI_add _ _) rfl ?_
        refine am_q_goto rfl ?_
        exact hB _
      · have c_48 : 0 ≤ p[j] := by rw [fa_lt, lw_ofInt hx1 hx2] at c_48; exact Int.not_lt.mp c_48
        rw [lwE_num c_48 hk] at hE
        rw [lw_nn c_48]
        refine am_q_iload rfl rfl ?_
        refine am_q_goto rfl ?_
        refine am_q_iast rfl rfl (am_ix_nI hk (by omega)) rfl ?_
        rw [am_rw_up]
        have hB := fun o => ih (j + 1) _ _ o (by omega) ⟨lwR_push hR _, hD, hE, by (simp; omega)⟩
        refine am_q_iinc [some _, some _, some _, some _, some _, some _, some _, some _] rfl (c := nI 1) rfl rfl (Nat.le_of_ble_eq_true rfl) (nI_add _ _) rfl ?_
        refine am_q_goto rfl ?_
        refine am_q_iinc [some _, some _, some _, some _, some _, some _, some _, some _] rfl (c := nI 1) rfl rfl (Nat.le_of_ble_eq_true rfl) (nI_add _ _) rfl ?_
        refine am_q_goto rfl ?_
        exact hB _

theorem am_w_run {d k : Nat} {vs : List Value} {h : am_H} {P : am_R → Prop} (hr : ∃ r, P r ∧ am_run d k vs h = some r) : ∃ r, am_run d k vs h = some r ∧ P r := by
  obtain ⟨r, h1, h2⟩ := hr
  exact ⟨r, h2, h1⟩
/-- a method's run, its end only described -/
theorem am_run_wE {d k : Nat} {Y : am_Y} {q : Nat × (Nat → Option am_I)} {vs : List Value} {h : am_H} {P : am_R → Prop} (hY : am_nm[k]? = some Y) (hq : am_cd[k]? = some q) (hl : (am_en vs).length ≤ Y.2.2.1) (L : am_L) (hL : am_en0 vs Y.2.2.1 = L) (hw : am_w d Y.2.2.2.1 (am_cut q.1 q.2) 0 L [] h P) : ∃ r, am_run (d + 1) k vs h = some r ∧ P r := by
  obtain ⟨m, r', h1, h2⟩ := hw
  subst hL
  exact ⟨r', am_run_of hY hq hl h1, h2⟩
/-- the law, asked: only its own stack is written -/
theorem s_holds (d n : Nat) (w c b t : Int32) {p : List Int} {μ : am_M2} (ν : am_N2) (hL : xL μ p) (hp : lwOk p) : ∃ g, am_run (d + 2) 88 [.ref 13, .int w, .int c, .int b, .int t] (am_hp n μ ν) = some (some (.int (sB (lwV p w c b t))), am_hp n (am_rw μ 15 g) ν) := by
  have key : ∃ r, am_run (d + 2) 88 [.ref 13, .int w, .int c, .int b, .int t] (am_hp n μ ν) = some r ∧ ∃ g, r = (some (.int (sB (lwV p w c b t))), am_hp n (am_rw μ 15 g) ν) := am_run_wE (k := 88) (d := d + 1) rfl rfl (Nat.le_of_ble_eq_true rfl) [some (.ref 13), some (.int w), some (.int c), some (.int b), some (.int t), none, none, none] rfl (by
    refine am_q_iconst (v := nI 0) rfl rfl ?_
    refine am_q_istore [some _, some _, some _, some _, some _, some _, none, none] rfl (Nat.le_of_ble_eq_true rfl) rfl ?_
    refine am_q_iconst (v := nI 0) rfl rfl ?_
    refine am_q_istore [some _, some _, some _, some _, some _, some _, some _, none] rfl (Nat.le_of_ble_eq_true rfl) rfl ?_
    have e := s_holdsL d n w c b t ν hL hp p.length 0 [] (μ 15) none (by omega) ⟨fun q v h => by simp at h, hp.1, rfl, by simp⟩
    rw [am_rw_self] at e
    exact e)
  obtain ⟨r, h1, g, h2⟩ := key
  exact ⟨g, by rw [h1, h2]⟩
theorem s_drops (d n s : Nat) (hs : s < 6) (w c b t : Int32) {p : List Int} {μ : am_M2} (ν : am_N2) (hw : μ 10 s = w) (hL : xL μ p) (hp : lwOk p) : ∃ g, am_run (d + 3) 87 [.ref 5, .int (nI s), .int c, .int b, .int t] (am_hp n μ ν) = some (some (.int (sB (lwV p w c b t))), am_hp n (am_rw μ 15 g) ν) := by
  obtain ⟨g, e⟩ := s_holds d n w c b t ν hL hp
  have key : ∃ r, am_run (d + 3) 87 [.ref 5, .int (nI s), .int c, .int b, .int t] (am_hp n μ ν) = some r ∧ ∃ g, r = (some (.int (sB (lwV p w c b t))), am_hp n (am_rw μ 15 g) ν) := am_run_wE (k := 87) (d := d + 2) rfl rfl (Nat.le_of_ble_eq_true rfl) [some (.ref 5), some (.int (nI s)), some (.int c), some (.int b), some (.int t)] rfl (by
    refine am_q_aload_n rfl rfl ?_
    refine am_q_gr rfl rfl rfl ?_
    refine am_q_aload_n rfl rfl ?_
    refine am_q_gr rfl rfl rfl ?_
    refine am_q_iload_n rfl rfl ?_
    refine am_q_iald rfl rfl (am_ix_nI (by omega) (by omega)) hw ?_
    refine am_q_iload_n rfl rfl ?_
    refine am_q_iload_n rfl rfl ?_
    refine am_q_iload rfl rfl ?_
    refine am_q_call rfl rfl (e) rfl ?_
    refine am_q_ireturn rfl rfl (sB_ok _) ?_
    exact ⟨g, rfl⟩)
  obtain ⟨r, h1, g, h2⟩ := key
  exact ⟨g, by rw [h1, h2]⟩