abbrev pSt : Type := Nat × List Int
def leafV (X : tTp) (i : Nat) : Option Int := if kd X i = 3 then some (nu X i : Int) else if kd X i = 2 then (if wd X i = lg 18 then some (-1) else if wd X i = lg 19 then some (-2) else if wd X i = lg 20 then some (-3) else if wd X i = lg 21 then some (-4) else none) else none
def lvO (c : Nat) : Option Nat := if c = 144 ∨ c = 145 then some 0 else if c = 60 ∨ c = 61 then some 1 else if c = 43 ∨ c = 45 then some 2 else if c = 42 then some 3 else none
def jtO (c : Nat) : Int := if c = 144 then -6 else if c = 145 then -7 else if c = 60 then -8 else if c = 61 then -9 else if c = 43 then -10 else if c = 45 then -11 else -12
def jnt (X : tTp) (l i : Nat) : Option Int := if lvO (tkc X i) = some l then some (jtO (tkc X i)) else none
def levL (P : Nat → List Int → Nat ⊕ pSt) (J : Nat → Option Int) : Nat → Nat → List Int → Nat ⊕ pSt
  | 0, i, p => .inr (i, p)
  | m + 1, i, p => match J i with
    | none => .inr (i, p)
    | some x => (match P (i + 1) p with
      | .inl c => .inl c
      | .inr q => levL P J m q.1 (q.2 ++ [x]))
def lev (P : Nat → List Int → Nat ⊕ pSt) (J : Nat → Option Int) (m i : Nat) (p : List Int) : Nat ⊕ pSt := match P i p with
  | .inl c => .inl c
  | .inr q => levL P J m q.1 q.2
def lv3 (X : tTp) (P : Nat → List Int → Nat ⊕ pSt) : Nat → List Int → Nat ⊕ pSt := lev P (jnt X 3) 1000
def lv2 (X : tTp) (P : Nat → List Int → Nat ⊕ pSt) : Nat → List Int → Nat ⊕ pSt := lev (lv3 X P) (jnt X 2) 1000
def lv1 (X : tTp) (P : Nat → List Int → Nat ⊕ pSt) : Nat → List Int → Nat ⊕ pSt := lev (lv2 X P) (jnt X 1) 1
def lv0 (X : tTp) (P : Nat → List Int → Nat ⊕ pSt) : Nat → List Int → Nat ⊕ pSt := lev (lv1 X P) (jnt X 0) 1000
def pPart (X : tTp) : Nat → Nat → List Int → Nat ⊕ pSt
  | 0, i, _ => if (leafV X i).isSome = true ∨ isWd X i 15 = true ∨ isSg X i 40 = true then .inl (wr X i 5) else .inl (wr X i 1)
  | r + 1, i, p => match leafV X i with
    | some x => .inr (i + 1, p ++ [x])
    | none => if isSg X i 40 = true then (match lv0 X (pPart X r) (i + 1) p with
        | .inl c => .inl c
        | .inr q => if isSg X q.1 41 = true then .inr (q.1 + 1, q.2) else .inl (wr X q.1 1))
      else if isWd X i 15 = true then (match pPart X r (i + 1) p with
        | .inl c => .inl c
        | .inr q => .inr (q.1, q.2 ++ [-5]))
      else .inl (wr X i 1)
/-- how many tokens there are -/
def tN (X : tTp) : Nat := fa_first (fun i => decide (kd X i = 0)) (X.2 + 1)
theorem en_i {X : tTp} : ∀ i, (∀ j, j < i → kd X j ≠ 0) → i ≤ en X i
  | 0, _ => Nat.zero_le _
  | i + 1, h => by
    have := en_i i (fun j hj => h j (by omega))
    have h1 := en_lt (h i (by omega))
    have h2 := pl_ge X i
    omega
theorem tN_le (X : tTp) : tN X ≤ X.2 := by
  by_cases z : tN X ≤ X.2
  · exact z
  · have h : ∀ j, j < X.2 + 1 → kd X j ≠ 0 := fun j hj e => by
      have := fa_first_no (fun i => decide (kd X i = 0)) (X.2 + 1) j (by have := fa_first_le (fun i => decide (kd X i = 0)) (X.2 + 1); unfold tN at z; omega)
      rw [decide_eq_true e] at this; cases this
    have h1 := en_i (X.2 + 1) h
    have h2 := en_le (X := X) (X.2 + 1)
    omega
theorem tN_0 (X : tTp) : kd X (tN X) = 0 := of_decide_eq_true (fa_first_yes (fun i => decide (kd X i = 0)) (X.2 + 1) (by have := tN_le X; unfold tN at this; omega))
theorem tN_n {X : tTp} {i : Nat} (h : i < tN X) : kd X i ≠ 0 := fun e => by
  have := fa_first_no (fun i => decide (kd X i = 0)) (X.2 + 1) i h
  rw [decide_eq_true e] at this; cases this
theorem tN_s {X : tTp} {i : Nat} (h : i ≤ tN X) (hk : kd X i ≠ 0) : i + 1 ≤ tN X := by
  by_cases e : i = tN X
  · rw [e] at hk; exact absurd (tN_0 X) hk
  · omega
/-- what a reader keeps to -/
def pGd (X : tTp) (P : Nat → List Int → Nat ⊕ pSt) : Prop := ∀ i p q, i ≤ tN X → P i p = .inr q → i < q.1 ∧ q.1 ≤ tN X ∧ q.2.length + i ≤ p.length + q.1
theorem jnt_k {X : tTp} {l i : Nat} {x : Int} (h : jnt X l i = some x) : kd X i ≠ 0 := fun e => by
  unfold jnt at h
  rw [tkc_0.mpr e] at h
  have : lvO 0 = none := rfl
  rw [this] at h
  cases h
theorem levL_gd {X : tTp} {P : Nat → List Int → Nat ⊕ pSt} {l : Nat} (hP : pGd X P) : ∀ m i p q, i ≤ tN X → levL P (jnt X l) m i p = .inr q → i ≤ q.1 ∧ q.1 ≤ tN X ∧ q.2.length + i ≤ p.length + q.1
  | 0, i, p, q, h2, h => by cases h; exact ⟨Nat.le_refl _, h2, Nat.le_refl _⟩
  | m + 1, i, p, q, h2, h => by
    unfold levL at h
    cases hj : jnt X l i with
    | none => rw [hj] at h; cases h; exact ⟨Nat.le_refl _, h2, Nat.le_refl _⟩
    | some x =>
      rw [hj] at h
      simp only at h
      have h3 := tN_s h2 (jnt_k hj)
      cases hp : P (i + 1) p with
      | inl c => rw [hp] at h; cases h
      | inr r =>
        rw [hp] at h
        obtain ⟨a, b, c⟩ := hP (i + 1) p r h3 hp
        have := levL_gd hP m r.1 (r.2 ++ [x]) q b h
        rw [List.length_append] at this
        have e : [x].length = 1 := rfl
        omega
theorem lev_gd {X : tTp} {P : Nat → List Int → Nat ⊕ pSt} {l m : Nat} (hP : pGd X P) : pGd X (lev P (jnt X l) m) := fun i p q h2 h => by
  unfold lev at h
  cases hp : P i p with
  | inl c => rw [hp] at h; cases h
  | inr r =>
    rw [hp] at h
    obtain ⟨a, b, c⟩ := hP i p r h2 hp
    have := levL_gd hP m r.1 r.2 q b h
    omega
theorem lv0_gd {X : tTp} {P : Nat → List Int → Nat ⊕ pSt} (hP : pGd X P) : pGd X (lv0 X P) := lev_gd (lev_gd (lev_gd (lev_gd hP)))
theorem leaf_k {X : tTp} {i : Nat} {x : Int} (h : leafV X i = some x) : kd X i ≠ 0 := fun e => by unfold leafV at h; rw [e] at h; cases h
theorem sg_k {X : tTp} {i c : Nat} (h : isSg X i c = true) : kd X i ≠ 0 := fun e => by unfold isSg at h; rw [e] at h; cases h
theorem wd_k {X : tTp} {i r : Nat} (h : isWd X i r = true) : kd X i ≠ 0 := fun e => by unfold isWd at h; rw [e] at h; cases h
theorem part_gd (X : tTp) : ∀ r, pGd X (pPart X r)
  | 0 => fun i p q h2 h => by unfold pPart at h; split at h <;> cases h
  | r + 1 => fun i p q h2 h => by
    have ih := part_gd X r
    unfold pPart at h
    cases hl : leafV X i with
    | some x =>
      rw [hl] at h; cases h
      have := tN_s h2 (leaf_k hl)
      refine ⟨by show i < i + 1; omega, this, ?_⟩
      show (p ++ [x]).length + i ≤ p.length + (i + 1)
      rw [List.length_append]; show p.length + 1 + i ≤ _; omega
    | none =>
      rw [hl] at h
      simp only at h
      by_cases hs : isSg X i 40 = true
      · rw [if_pos hs] at h
        have h3 := tN_s h2 (sg_k hs)
        cases hp : lv0 X (pPart X r) (i + 1) p with
        | inl c => rw [hp] at h; cases h
        | inr s =>
          rw [hp] at h
          simp only at h
          obtain ⟨a, b, c⟩ := lv0_gd ih (i + 1) p s h3 hp
          by_cases h41 : isSg X s.1 41 = true
          · rw [if_pos h41] at h; cases h
            have := tN_s b (sg_k h41)
            exact ⟨by show i < s.1 + 1; omega, this, by show s.2.length + i ≤ p.length + (s.1 + 1); omega⟩
          · rw [if_neg h41] at h; cases h
      · rw [if_neg hs] at h
        by_cases hw : isWd X i 15 = true
        · rw [if_pos hw] at h
          have h3 := tN_s h2 (wd_k hw)
          cases hp : pPart X r (i + 1) p with
          | inl c => rw [hp] at h; cases h
          | inr s =>
            rw [hp] at h; cases h
            obtain ⟨a, b, c⟩ := ih (i + 1) p s h3 hp
            refine ⟨by show i < s.1; omega, b, ?_⟩
            show (s.2 ++ [-5]).length + i ≤ p.length + s.1
            rw [List.length_append]; show s.2.length + 1 + i ≤ _; omega
        · rw [if_neg hw] at h; cases h
/-- the law in the draft -/
def lawSt (μ : am_M2) (p : List Int) : Prop := μ 24 2 = nI p.length ∧ ∀ j (h : j < p.length), μ 25 j = Int32.ofInt p[j]
def frLw (μ μ' : am_M2) : Prop := ∀ i k, ¬ (i = 3 ∧ 2 ≤ k) → ¬ (i = 24 ∧ k = 2) → i ≠ 25 → μ' i k = μ i k
theorem frLw_tr {μ μ' μ'' : am_M2} (h : frLw μ μ') (h' : frLw μ' μ'') : frLw μ μ'' := fun i k a b c => (h' i k a b c).trans (h i k a b c)
theorem frLw_rf (μ : am_M2) : frLw μ μ := fun _ _ _ _ _ => rfl
theorem frLw_3 {μ μ' : am_M2} (h : frT3 μ μ') : frLw μ μ' := fun i k a b c => h i k a
theorem lawSt_3 {μ μ' : am_M2} {p : List Int} (h : frT3 μ μ') (hp : lawSt μ p) : lawSt μ' p := ⟨(h 24 2 (by omega)).trans hp.1, fun j hj => (h 25 j (by omega)).trans (hp.2 j hj)⟩
theorem lawSt_push {μ : am_M2} {p : List Int} {x : Int} {v : Int32} (hv : v = Int32.ofInt x) (h : lawSt μ p) : lawSt (am_up (am_up μ 25 p.length v) 24 2 (nI (p.length + 1))) (p ++ [x]) := by
  refine ⟨by rw [am_up_eq, List.length_append]; rfl, fun j hj => ?_⟩
  rw [List.length_append] at hj
  have hj : j < p.length + 1 := hj
  rw [am_up_ne (by omega)]
  by_cases e : j = p.length
  · subst e; rw [am_up_eq, hv]; simp
  · rw [am_up_ne (by omega), h.2 j (by omega), List.getElem_append_left (by omega)]
def lwQ (X : tTp) (n : Nat) (μ : am_M2) (ν : am_N2) (r : Nat ⊕ pSt) (y : am_R) : Prop := match r with
  | .inl c => ∃ μ' ν' L, y = (some (.int (sB false)), am_hp n μ' ν') ∧ μ' 3 7 = nI c ∧ μ' 24 2 = nI L ∧ L ≤ 1000 ∧ frLw μ μ' ∧ frKL ν ν'
  | .inr q => ∃ μ' ν', y = (some (.int (sB true)), am_hp n μ' ν') ∧ xTk μ' ν' X q.1 ∧ lawSt μ' q.2 ∧ frLw μ μ' ∧ frKL ν ν'
def lwC (X : tTp) (n D : Nat) (P : Nat → List Int → Nat ⊕ pSt) (k : Nat) (as : List Value) : Prop := ∀ i p μ ν, xTk μ ν X i → xLg ν → lawSt μ p → p.length ≤ i → i ≤ tN X → ∃ y, am_run D k (.ref 24 :: .ref 3 :: as) (am_hp n μ ν) = some y ∧ lwQ X n μ ν (P i p) y
theorem lwQ_tr {X : tTp} {n : Nat} {μ μ1 : am_M2} {ν ν1 : am_N2} {r : Nat ⊕ pSt} {y : am_R} (h : frLw μ μ1) (hl : frKL ν ν1) (hq : lwQ X n μ1 ν1 r y) : lwQ X n μ ν r y := by
  unfold lwQ at hq ⊢
  cases r with
  | inl c => obtain ⟨μ', ν', L, a, b, c, d, e, f⟩ := hq; exact ⟨μ', ν', L, a, b, c, d, frLw_tr h e, frKL_tr hl f⟩
  | inr q => obtain ⟨μ', ν', a, b, c, e, f⟩ := hq; exact ⟨μ', ν', a, b, c, frLw_tr h e, frKL_tr hl f⟩
theorem s_put1 (d : Nat) (n : Nat) (L : Nat) (hL : L < 1000) (v : Int32) {μ : am_M2} (ν : am_N2) (h : μ 24 2 = nI L) : am_run (d + 1) 28 [.ref 24, .int v] (am_hp n μ ν) = some (none, am_hp n (am_up (am_up μ 25 L v) 24 2 (nI (L + 1))) ν) := by
  refine am_r28 (d := d + 0) (Nat.le_of_ble_eq_true rfl) [some (.ref 24), some (.int v)] rfl ?_
  refine am_q_aload_n rfl rfl ?_
  refine am_q_gi rfl rfl rfl h ?_
  refine am_q_aload_n rfl rfl ?_
  refine am_q_gr rfl rfl rfl ?_
  refine am_q_alen rfl rfl (v := _) (show Int32.ofNat 1000 = nI 1000 from rfl) ?_
  refine am_q_igeN rfl (by omega) (by omega) (fun c_9 => absurd c_9 (by omega)) (fun c_9 => ?_)
  refine am_q_aload_n rfl rfl ?_
  refine am_q_gr rfl rfl rfl ?_
  refine am_q_aload_n rfl rfl ?_
  refine am_q_gi rfl rfl rfl h ?_
  refine am_q_iload_n rfl rfl ?_
  refine am_q_iast rfl rfl (by first | exact am_ix_nI (by omega) (by omega) | rfl) rfl ?_
  refine am_q_aload_n rfl rfl ?_
  refine am_q_dupr rfl ?_
  refine am_q_gi rfl rfl rfl h ?_
  refine am_q_iconst (v := nI 1) rfl rfl ?_
  refine am_q_iadd rfl (nI_add _ _) ?_
  refine am_q_pi rfl rfl rfl (Or.inl rfl) ?_
  refine am_q_return rfl rfl ?_
  rfl

theorem s_put0 (d : Nat) (n : Nat) (L : Nat) (hL : L = 1000) (v : Int32) {μ : am_M2} (ν : am_N2) (h : μ 24 2 = nI L) : am_run (d + 1) 28 [.ref 24, .int v] (am_hp n μ ν) = some (none, am_hp n μ ν) := by
  refine am_r28 (d := d + 0) (Nat.le_of_ble_eq_true rfl) [some (.ref 24), some (.int v)] rfl ?_
  refine am_q_aload_n rfl rfl ?_
  refine am_q_gi rfl rfl rfl h ?_
  refine am_q_aload_n rfl rfl ?_
  refine am_q_gr rfl rfl rfl ?_
  refine am_q_alen rfl rfl (v := _) (show Int32.ofNat 1000 = nI 1000 from rfl) ?_
  refine am_q_igeN rfl (by omega) (by omega) (fun c_9 => ?_) (fun c_9 => absurd c_9 (by omega))
  refine am_q_return rfl rfl ?_
  rfl

theorem s_putA (d n L : Nat) (hL : L ≤ 1000) (v : Int32) {μ : am_M2} (ν : am_N2) (h : μ 24 2 = nI L) : ∃ μ' L', am_run (d + 1) 28 [.ref 24, .int v] (am_hp n μ ν) = some (none, am_hp n μ' ν) ∧ μ' 24 2 = nI L' ∧ L' ≤ 1000 ∧ (∀ i k, ¬ (i = 24 ∧ k = 2) → i ≠ 25 → μ' i k = μ i k) := by
  by_cases z : L < 1000
  · exact ⟨_, L + 1, s_put1 d n L z v ν h, am_up_eq, by omega, fun i k a b => by rw [am_up_ne (by omega), am_up_ne (by omega)]⟩
  · exact ⟨_, L, s_put0 d n L (by omega) v ν h, h, hL, fun _ _ _ _ => rfl⟩
def lvI (c : Nat) : Int32 := match lvO c with
  | none => -1
  | some l => nI l
theorem lv_sw : ∀ c, c < 148 → am_lsw 1 75 [(42, 73), (43, 71), (45, 71), (60, 69), (61, 69), (144, 67), (145, 67)] (nI c) = some (match lvO c with
  | none => 76
  | some 0 => 68
  | some 1 => 70
  | some 2 => 72
  | some _ => 74) := by decide +kernel
theorem jt_sw : ∀ c, c < 148 → (lvO c).isSome = true → am_lsw 1 77 [(43, 71), (45, 74), (60, 65), (61, 68), (144, 59), (145, 62)] (nI c) = some (if c = 144 then 60 else if c = 145 then 63 else if c = 60 then 66 else if c = 61 then 69 else if c = 43 then 72 else if c = 45 then 75 else 78) := by decide +kernel
theorem lv_cs : ∀ c, c < 148 → lvO c = none ∨ lvO c = some 0 ∨ lvO c = some 1 ∨ lvO c = some 2 ∨ lvO c = some 3 := by decide +kernel
theorem tkc_148 (X : tTp) (i : Nat) : tkc X i < 148 := by
  have := kd_le X i
  unfold tkc
  split
  · split <;> omega
  · split
    · rename_i h; have := sg_rng (kd_sg h).2; omega
    · omega
theorem s_lv_none (d : Nat) (c : Nat) (hc : c < 148) (hv : lvO c = none) (h : am_H) : am_run (d + 1) 50 [.int (nI c)] (h) = some (some (.int (-1)), h) := by
  refine am_r50 (d := d + 0) (Nat.le_of_ble_eq_true rfl) [some (.int (nI c))] rfl ?_
  refine am_q_iload_n rfl rfl ?_
  refine am_q_lsw (t := 76) rfl ((lv_sw c hc).trans (by rw [hv] <;> rfl)) ?_
  refine am_q_iconst (v := -1) rfl rfl ?_
  refine am_q_ireturn rfl rfl rfl ?_
  rfl

theorem s_lv_some0 (d : Nat) (c : Nat) (hc : c < 148) (hv : lvO c = some 0) (h : am_H) : am_run (d + 1) 50 [.int (nI c)] (h) = some (some (.int (nI 0)), h) := by
  refine am_r50 (d := d + 0) (Nat.le_of_ble_eq_true rfl) [some (.int (nI c))] rfl ?_
  refine am_q_iload_n rfl rfl ?_
  refine am_q_lsw (t := 68) rfl ((lv_sw c hc).trans (by rw [hv] <;> rfl)) ?_
  refine am_q_iconst (v := nI 0) rfl rfl ?_
  refine am_q_ireturn rfl rfl rfl ?_
  rfl

theorem s_lv_some1 (d : Nat) (c : Nat) (hc : c < 148) (hv : lvO c = some 1) (h : am_H) : am_run (d + 1) 50 [.int (nI c)] (h) = some (some (.int (nI 1)), h) := by
  refine am_r50 (d := d + 0) (Nat.le_of_ble_eq_true rfl) [some (.int (nI c))] rfl ?_
  refine am_q_iload_n rfl rfl ?_
  refine am_q_lsw (t := 70) rfl ((lv_sw c hc).trans (by rw [hv] <;> rfl)) ?_
  refine am_q_iconst (v := nI 1) rfl rfl ?_
  refine am_q_ireturn rfl rfl rfl ?_
  rfl

theorem s_lv_some2 (d : Nat) (c : Nat) (hc : c < 148) (hv : lvO c = some 2) (h : am_H) : am_run (d + 1) 50 [.int (nI c)] (h) = some (some (.int (nI 2)), h) := by
  refine am_r50 (d := d + 0) (Nat.le_of_ble_eq_true rfl) [some (.int (nI c))] rfl ?_
  refine am_q_iload_n rfl rfl ?_
  refine am_q_lsw (t := 72) rfl ((lv_sw c hc).trans (by rw [hv] <;> rfl)) ?_
  refine am_q_iconst (v := nI 2) rfl rfl ?_
  refine am_q_ireturn rfl rfl rfl ?_
  rfl

theorem s_lv_some3 (d : Nat) (c : Nat) (hc : c < 148) (hv : lvO c = some 3) (h : am_H) : am_run (d + 1) 50 [.int (nI c)] (h) = some (some (.int (nI 3)), h) := by
  refine am_r50 (d := d + 0) (Nat.le_of_ble_eq_true rfl) [some (.int (nI c))] rfl ?_
  refine am_q_iload_n rfl rfl ?_
  refine am_q_lsw (t := 74) rfl ((lv_sw c hc).trans (by rw [hv] <;> rfl)) ?_
  refine am_q_iconst (v := nI 3) rfl rfl ?_
  refine am_q_ireturn rfl rfl rfl ?_
  rfl

theorem s_levelOf (d c : Nat) (hc : c < 148) (h : am_H) : am_run (d + 1) 50 [.int (nI c)] h = some (some (.int (lvI c)), h) := by
  unfold lvI
  have := lv_cs c hc
  rcases this with e | e | e | e | e
  · rw [e]; exact s_lv_none d c hc e h
  · rw [e]; exact s_lv_some0 d c hc e h
  · rw [e]; exact s_lv_some1 d c hc e h
  · rw [e]; exact s_lv_some2 d c hc e h
  · rw [e]; exact s_lv_some3 d c hc e h
theorem s_jt_144 (d : Nat) (h : am_H) : am_run (d + 1) 51 [.int (nI 144)] (h) = some (some (.int (-6)), h) := by
  refine am_r51 (d := d + 0) (Nat.le_of_ble_eq_true rfl) [some (.int (nI 144))] rfl ?_
  refine am_q_iload_n rfl rfl ?_
  refine am_q_lsw (t := 60) rfl (by decide) ?_
  refine am_q_bipush (v := -6) rfl rfl ?_
  refine am_q_ireturn rfl rfl rfl ?_
  rfl

theorem s_jt_145 (d : Nat) (h : am_H) : am_run (d + 1) 51 [.int (nI 145)] (h) = some (some (.int (-7)), h) := by
  refine am_r51 (d := d + 0) (Nat.le_of_ble_eq_true rfl) [some (.int (nI 145))] rfl ?_
  refine am_q_iload_n rfl rfl ?_
  refine am_q_lsw (t := 63) rfl (by decide) ?_
  refine am_q_bipush (v := -7) rfl rfl ?_
  refine am_q_ireturn rfl rfl rfl ?_
  rfl

theorem s_jt_60 (d : Nat) (h : am_H) : am_run (d + 1) 51 [.int (nI 60)] (h) = some (some (.int (-8)), h) := by
  refine am_r51 (d := d + 0) (Nat.le_of_ble_eq_true rfl) [some (.int (nI 60))] rfl ?_
  refine am_q_iload_n rfl rfl ?_
  refine am_q_lsw (t := 66) rfl (by decide) ?_
  refine am_q_bipush (v := -8) rfl rfl ?_
  refine am_q_ireturn rfl rfl rfl ?_
  rfl

theorem s_jt_61 (d : Nat) (h : am_H) : am_run (d + 1) 51 [.int (nI 61)] (h) = some (some (.int (-9)), h) := by
  refine am_r51 (d := d + 0) (Nat.le_of_ble_eq_true rfl) [some (.int (nI 61))] rfl ?_
  refine am_q_iload_n rfl rfl ?_
  refine am_q_lsw (t := 69) rfl (by decide) ?_
  refine am_q_bipush (v := -9) rfl rfl ?_
  refine am_q_ireturn rfl rfl rfl ?_
  rfl

theorem s_jt_43 (d : Nat) (h : am_H) : am_run (d + 1) 51 [.int (nI 43)] (h) = some (some (.int (-10)), h) := by
  refine am_r51 (d := d + 0) (Nat.le_of_ble_eq_true rfl) [some (.int (nI 43))] rfl ?_
  refine am_q_iload_n rfl rfl ?_
  refine am_q_lsw (t := 72) rfl (by decide) ?_
  refine am_q_bipush (v := -10) rfl rfl ?_
  refine am_q_ireturn rfl rfl rfl ?_
  rfl

theorem s_jt_45 (d : Nat) (h : am_H) : am_run (d + 1) 51 [.int (nI 45)] (h) = some (some (.int (-11)), h) := by
  refine am_r51 (d := d + 0) (Nat.le_of_ble_eq_true rfl) [some (.int (nI 45))] rfl ?_
  refine am_q_iload_n rfl rfl ?_
  refine am_q_lsw (t := 75) rfl (by decide) ?_
  refine am_q_bipush (v := -11) rfl rfl ?_
  refine am_q_ireturn rfl rfl rfl ?_
  rfl

theorem s_jt_42 (d : Nat) (h : am_H) : am_run (d + 1) 51 [.int (nI 42)] (h) = some (some (.int (-12)), h) := by
  refine am_r51 (d := d + 0) (Nat.le_of_ble_eq_true rfl) [some (.int (nI 42))] rfl ?_
  refine am_q_iload_n rfl rfl ?_
  refine am_q_lsw (t := 78) rfl (by decide) ?_
  refine am_q_bipush (v := -12) rfl rfl ?_
  refine am_q_ireturn rfl rfl rfl ?_
  rfl

theorem s_jointOf (d c : Nat) (hc : (lvO c).isSome = true) (h : am_H) : am_run (d + 1) 51 [.int (nI c)] h = some (some (.int (Int32.ofInt (jtO c))), h) := by
  have : c = 144 ∨ c = 145 ∨ c = 60 ∨ c = 61 ∨ c = 43 ∨ c = 45 ∨ c = 42 := by
    unfold lvO at hc
    repeat' split at hc
    all_goals first | omega | cases hc
  rcases this with rfl | rfl | rfl | rfl | rfl | rfl | rfl
  · exact s_jt_144 d h
  · exact s_jt_145 d h
  · exact s_jt_60 d h
  · exact s_jt_61 d h
  · exact s_jt_43 d h
  · exact s_jt_45 d h
  · exact s_jt_42 d h
def lfI (X : tTp) (i : Nat) : Int32 := match leafV X i with
  | none => -99
  | some x => Int32.ofInt x
theorem fact_nm : ∀ k, k < 4 → 18 ≤ lgI (lg (18 + k)) := by decide +kernel
theorem wd_63 {X : tTp} (hX : tpOk X) {i : Nat} (h : kd X i = 2) : wd X i < 2 ^ 63 := by
  have h0 : ¬ X.2 ≤ pl X i := fun z => by rw [kd_0.mpr z] at h; cases h
  have hl : leB (X.1 (pl X i)) = true := by
    cases hl : leB (X.1 (pl X i)) with
    | true => rfl
    | false =>
      unfold kd lkK at h
      rw [if_neg h0, if_neg (by rw [hl]; exact Bool.false_ne_true)] at h
      repeat' split at h
      all_goals omega
  have he : en X (i + 1) = lxL X (pl X i) := by rw [en_s]; unfold lkE; rw [if_neg h0, if_pos hl]
  have h8 : ¬ 8 < lxL X (pl X i) - pl X i := fun z => by unfold kd lkK at h; rw [if_neg h0, if_pos hl, if_pos z] at h; cases h
  have hen := en_le (X := X) (i + 1)
  unfold wd
  exact w63 (by rw [he]; omega) (fun k hk => tp_128 hX (by omega))
theorem leaf_no {X : tTp} {i : Nat} (h3 : ¬ kd X i = 3) (hn : ¬ tkc X i = 2) : leafV X i = none := by
  unfold leafV
  rw [if_neg h3]
  by_cases h2 : kd X i = 2
  · rw [if_pos h2]
    have h18 : ¬ 18 ≤ lgI (wd X i) := fun z => hn (tkc_n.mpr (by unfold isNm; rw [decide_eq_true h2, decide_eq_true z]; rfl))
    rw [if_neg (fun e => h18 (by rw [e]; exact fact_nm 0 (by decide))), if_neg (fun e => h18 (by rw [e]; exact fact_nm 1 (by decide))), if_neg (fun e => h18 (by rw [e]; exact fact_nm 2 (by decide))), if_neg (fun e => h18 (by rw [e]; exact fact_nm 3 (by decide)))]
  · rw [if_neg h2]
/-- StoneSecrets$Law.leafOf(LStoneSecrets$Tape;)I -/
theorem s_leafOf (d : Nat) (n i : Nat) {X : tTp} {μ : am_M2} (ν : am_N2) (hX : tpOk X) (hT : xTk μ ν X i) : am_run (d + 1) 49 [.ref 3] (am_hp n μ ν) = some (some (.int (lfI X i)), am_hp n μ ν) := by
  have ht := tkc_lt X i
  refine am_r49 (d := d + 0) (Nat.le_of_ble_eq_true rfl) [some (.ref 3)] rfl ?_
  refine am_q_aload_n rfl rfl ?_
  refine am_q_gi rfl rfl rfl hT.2.2.2.1 ?_
  refine am_q_iconst (v := nI 3) rfl rfl ?_
  refine am_q_ineN rfl (by omega) (by omega) (fun c_5 => ?_) (fun c_5 => ?_)
  · have h3 : ¬ kd X i = 3 := fun z => c_5 (tkc_3.mpr z)
    refine am_q_aload_n rfl rfl ?_
    refine am_q_gi rfl rfl rfl hT.2.2.2.1 ?_
    refine am_q_iconst (v := nI 2) rfl rfl ?_
    refine am_q_ieqN rfl (by omega) (by omega) (fun c_18 => ?_) (fun c_18 => ?_)
    · have hnm := tkc_n.mp c_18
      have h2 : kd X i = 2 := by unfold isNm at hnm; rw [Bool.and_eq_true] at hnm; exact of_decide_eq_true hnm.1
      have hw := wd_63 hX h2
      refine am_q_aload_n rfl rfl ?_
      refine am_q_gl rfl rfl rfl (hT.2.2.2.2.2 h2) ?_
      refine am_q_ldc2_w (v := lN 131277443786868) rfl rfl ?_
      refine am_q_lcmp rfl rfl ?_
      refine am_q_if_ne rfl (fun c_32 => ?_) (fun c_32 => ?_)
      · have e_32 : ¬ wd X i = lg 18 := fun z => c_32 (lg0.mpr (by rw [z]; rfl))
        refine am_q_aload_n rfl rfl ?_
        refine am_q_gl rfl rfl rfl (hT.2.2.2.2.2 h2) ?_
        refine am_q_ldc2_w (v := lN 1668246628) rfl rfl ?_
        refine am_q_lcmp rfl rfl ?_
        refine am_q_if_ne rfl (fun c_45 => ?_) (fun c_45 => ?_)
        · have e_45 : ¬ wd X i = lg 19 := fun z => c_45 (lg0.mpr (by rw [z]; rfl))
          refine am_q_aload_n rfl rfl ?_
          refine am_q_gl rfl rfl rfl (hT.2.2.2.2.2 h2) ?_
          refine am_q_ldc2_w (v := lN 108187867505765) rfl rfl ?_
          refine am_q_lcmp rfl rfl ?_
          refine am_q_if_ne rfl (fun c_59 => ?_) (fun c_59 => ?_)
          · have e_59 : ¬ wd X i = lg 20 := fun z => c_59 (lg0.mpr (by rw [z]; rfl))
            refine am_q_aload_n rfl rfl ?_
            refine am_q_gl rfl rfl rfl (hT.2.2.2.2.2 h2) ?_
            refine am_q_ldc2_w (v := lN 1684108389) rfl rfl ?_
            refine am_q_lcmp rfl rfl ?_
            refine am_q_if_ne rfl (fun c_73 => ?_) (fun c_73 => ?_)
            · have e_73 : ¬ wd X i = lg 21 := fun z => c_73 (lg0.mpr (by rw [z]; rfl))
              refine am_q_bipush (v := -99) rfl rfl ?_
              refine am_q_ireturn rfl rfl rfl ?_
              unfold lfI leafV
              rw [if_neg (by omega), if_pos h2, if_neg e_32, if_neg e_45, if_neg e_59, if_neg e_73]
            · have e_73 : wd X i = lg 21 := (pk_lEQ hw (lg_63 21 (by decide))).mp (lg0.mp c_73)
              refine am_q_bipush (v := -4) rfl rfl ?_
              refine am_q_goto rfl ?_
              refine am_q_ireturn rfl rfl rfl ?_
              unfold lfI leafV
              rw [if_neg (by omega), if_pos h2, if_neg e_32, if_neg e_45, if_neg e_59, if_pos e_73]; rfl
          · have e_59 : wd X i = lg 20 := (pk_lEQ hw (lg_63 20 (by decide))).mp (lg0.mp c_59)
            refine am_q_bipush (v := -3) rfl rfl ?_
            refine am_q_ireturn rfl rfl rfl ?_
            unfold lfI leafV
            rw [if_neg (by omega), if_pos h2, if_neg e_32, if_neg e_45, if_pos e_59]; rfl
        · have e_45 : wd X i = lg 19 := (pk_lEQ hw (lg_63 19 (by decide))).mp (lg0.mp c_45)
          refine am_q_bipush (v := -2) rfl rfl ?_
          refine am_q_ireturn rfl rfl rfl ?_
          unfold lfI leafV
          rw [if_neg (by omega), if_pos h2, if_neg e_32, if_pos e_45]; rfl
      · have e_32 : wd X i = lg 18 := (pk_lEQ hw (lg_63 18 (by decide))).mp (lg0.mp c_32)
        refine am_q_iconst (v := -1) rfl rfl ?_
        refine am_q_ireturn rfl rfl rfl ?_
        unfold lfI leafV
        rw [if_neg (by omega), if_pos h2, if_pos e_32]; rfl
    · refine am_q_bipush (v := -99) rfl rfl ?_
      refine am_q_ireturn rfl rfl rfl ?_
      unfold lfI; rw [leaf_no h3 c_18]
  · have h3 := tkc_3.mp c_5
    refine am_q_aload_n rfl rfl ?_
    refine am_q_gi rfl rfl rfl (hT.2.2.2.2.1 h3) ?_
    refine am_q_ireturn rfl rfl rfl ?_
    unfold lfI leafV; rw [if_pos h3]; rfl
