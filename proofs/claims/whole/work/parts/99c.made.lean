/-! ===== what is read is well made ===== -/
theorem lwD_app : ∀ (a b : List Int) (k : Nat), lwD (a ++ b) k = (lwD a k).bind (lwD b)
  | [], b, k => rfl
  | x :: a, b, k => by
    show lwD (x :: (a ++ b)) k = (lwD (x :: a) k).bind (lwD b)
    unfold lwD
    repeat' split
    all_goals first | (exact lwD_app a b _) | rfl
def lwRg (w : List Int) : Prop := ∀ x ∈ w, -12 ≤ x ∧ x < 10000
theorem lwRg_app {a b : List Int} (ha : lwRg a) (hb : lwRg b) : lwRg (a ++ b) := fun x hx => by
  rcases List.mem_append.mp hx with h | h
  · exact ha x h
  · exact hb x h
theorem lwRg_1 {x : Int} (h : -12 ≤ x ∧ x < 10000) : lwRg [x] := fun y hy => by rw [List.mem_singleton.mp hy]; exact h
def pLw (P : Nat → List Int → Nat ⊕ pSt) (c : Nat) : Prop := ∀ i p q, P i p = .inr q → ∃ w, q.2 = p ++ w ∧ lwRg w ∧ ∀ k, k + c ≤ 32 → lwD w k = some (k + 1)
theorem jt_r {X : tTp} {l i : Nat} {x : Int} (h : jnt X l i = some x) : -12 ≤ x ∧ x ≤ -6 := by
  unfold jnt at h
  split at h
  · injection h with h; rw [← h]; unfold jtO; repeat' split
    all_goals omega
  · cases h
theorem lwD_j {x : Int} (h : -12 ≤ x ∧ x ≤ -6) (k : Nat) : lwD [x] (k + 2) = some (k + 1) := by
  unfold lwD
  rw [if_neg (by omega), if_neg (by omega), if_pos (by omega)]
  rfl
theorem levL_lw {X : tTp} {P : Nat → List Int → Nat ⊕ pSt} {l c : Nat} (hP : pLw P c) : ∀ m i p q, levL P (jnt X l) m i p = .inr q → ∃ w, q.2 = p ++ w ∧ lwRg w ∧ ∀ k, k + c ≤ 31 → lwD w (k + 1) = some (k + 1)
  | 0, i, p, q, h => by unfold levL at h; injection h with h; rw [← h]; exact ⟨[], (List.append_nil p).symm, fun x hx => (by cases hx), fun k _ => rfl⟩
  | m + 1, i, p, q, h => by
    unfold levL at h
    cases hj : jnt X l i with
    | none => rw [hj] at h; injection h with h; rw [← h]; exact ⟨[], (List.append_nil p).symm, fun x hx => (by cases hx), fun k _ => rfl⟩
    | some x =>
      rw [hj] at h
      simp only at h
      cases hp : P (i + 1) p with
      | inl e => rw [hp] at h; cases h
      | inr r =>
        rw [hp] at h
        simp only at h
        obtain ⟨w1, e1, r1, d1⟩ := hP _ _ _ hp
        obtain ⟨w2, e2, r2, d2⟩ := levL_lw hP m r.1 (r.2 ++ [x]) q h
        have hx := jt_r hj
        refine ⟨w1 ++ [x] ++ w2, by rw [e2, e1]; simp only [List.append_assoc], lwRg_app (lwRg_app r1 (lwRg_1 (by omega))) r2, fun k hk => ?_⟩
        rw [lwD_app, lwD_app, d1 (k + 1) (by omega)]
        show (lwD [x] (k + 2)).bind (lwD w2) = _
        rw [lwD_j hx]
        exact d2 k hk
theorem lev_lw {X : tTp} {P : Nat → List Int → Nat ⊕ pSt} {l c m : Nat} (hP : pLw P c) : pLw (lev P (jnt X l) m) (c + 1) := fun i p q h => by
  unfold lev at h
  cases hp : P i p with
  | inl e => rw [hp] at h; cases h
  | inr r =>
    rw [hp] at h
    simp only at h
    obtain ⟨w1, e1, r1, d1⟩ := hP _ _ _ hp
    obtain ⟨w2, e2, r2, d2⟩ := levL_lw hP m r.1 r.2 q h
    refine ⟨w1 ++ w2, by rw [e2, e1, List.append_assoc], lwRg_app r1 r2, fun k hk => ?_⟩
    rw [lwD_app, d1 k (by omega)]
    exact d2 k (by omega)
theorem lv0_lw {X : tTp} {P : Nat → List Int → Nat ⊕ pSt} {c : Nat} (hP : pLw P c) : pLw (lv0 X P) (c + 4) := lev_lw (lev_lw (lev_lw (lev_lw hP)))
theorem leaf_r {X : tTp} {i : Nat} {x : Int} (h : leafV X i = some x) : -4 ≤ x ∧ x < 10000 := by
  unfold leafV at h
  by_cases h3 : kd X i = 3
  · rw [if_pos h3] at h
    have := kd_nu h3
    injection h with h
    omega
  · rw [if_neg h3] at h
    repeat' split at h
    all_goals first | (injection h with h; omega) | cases h
theorem part_lw (X : tTp) : ∀ r, pLw (pPart X r) (4 * r)
  | 0 => fun i p q h => by unfold pPart at h; split at h <;> cases h
  | r + 1 => fun i p q h => by
    have ih := part_lw X r
    unfold pPart at h
    cases hl : leafV X i with
    | some x =>
      rw [hl] at h
      injection h with h
      have hx := leaf_r hl
      rw [← h]
      refine ⟨[x], rfl, lwRg_1 (by omega), fun k hk => ?_⟩
      unfold lwD
      rw [if_pos (by omega), if_pos (by omega)]
      rfl
    | none =>
      rw [hl] at h
      simp only at h
      by_cases h4 : isSg X i 40 = true
      · rw [if_pos h4] at h
        cases hp : lv0 X (pPart X r) (i + 1) p with
        | inl e => rw [hp] at h; cases h
        | inr y =>
          rw [hp] at h
          simp only at h
          by_cases h1 : isSg X y.1 41 = true
          · rw [if_pos h1] at h
            injection h with h
            obtain ⟨w, e, z, dd⟩ := lv0_lw ih _ _ _ hp
            rw [← h]
            exact ⟨w, e, z, fun k hk => dd k (by omega)⟩
          · rw [if_neg h1] at h; cases h
      · rw [if_neg h4] at h
        by_cases h5 : isWd X i 15 = true
        · rw [if_pos h5] at h
          cases hp : pPart X r (i + 1) p with
          | inl e => rw [hp] at h; cases h
          | inr y =>
            rw [hp] at h
            injection h with h
            obtain ⟨w, e, z, dd⟩ := ih _ _ _ hp
            rw [← h]
            refine ⟨w ++ [-5], by show y.2 ++ [-5] = _; rw [e, List.append_assoc], lwRg_app z (lwRg_1 (by omega)), fun k hk => ?_⟩
            rw [lwD_app, dd k (by omega)]
            show lwD [-5] (k + 1) = _
            unfold lwD
            rw [if_neg (by omega), if_pos (by omega), if_pos (by omega)]
            rfl
        · rw [if_neg h5] at h; cases h
theorem law_ok {X : tTp} (hX : tpOk X) {i : Nat} {q : pSt} (hi : i ≤ tN X) (h : lv0 X (pPart X 5) i [] = .inr q) : lwOk q.2 ∧ i < q.1 ∧ q.1 ≤ tN X := by
  obtain ⟨w, e, z, dd⟩ := lv0_lw (part_lw X 5) _ _ _ h
  obtain ⟨a, b, c⟩ := lv0_gd (part_gd X 5) i [] q hi h
  have hN := tN_le X
  have hX1 := hX.1
  have hl : q.2.length ≤ 1000 := by simp only [List.length_nil] at c; omega
  refine ⟨⟨?_, hl, ?_⟩, a, b⟩
  · rw [e]; exact dd 0 (by omega)
  · rw [e]; exact z
def dG (D : dft) : Prop := dOk D ∧ lwOk (vL D.1) ∧ (∀ s o, (vH D.1 s).testBit o = true → s < vN D.1 ∧ o < vN D.1 ∧ s ≠ o ∧ (vH D.1 o).testBit s = true) ∧ ∀ s t, s < vN D.1 → t < vN D.1 → D.2.1 s = D.2.1 t → s = t
theorem pN_k {X : tTp} {i lo hi v : Nat} (h : pNum X i lo hi = .inr v) : kd X i = 3 := by
  unfold pNum at h
  split at h
  · cases h
  · rename_i c; simpa using c
theorem nz {X : tTp} {i k : Nat} (h : kd X i = k) (hk : k ≠ 0) : kd X i ≠ 0 := by omega
theorem pWall_g {X : tTp} {i : Nat} {D : dft} {q : Nat × dft} (hG : dG D) (hi : i ≤ tN X) (hk : kd X i ≠ 0) (h : pWall X i D = .inr q) : i < q.1 ∧ q.1 ≤ tN X ∧ dG q.2 := by
  unfold pWall at h
  split at h
  · cases h
  cases hp : pNum X (i + 1) 1 8 with
  | inl e => rw [hp] at h; cases h
  | inr v =>
    rw [hp] at h
    injection h with h
    rw [← h]
    have hv := pN_in hp
    have h1 := tN_s (tN_s hi hk) (nz (pN_k hp) (by decide))
    exact ⟨by show i < i + 2; omega, h1, ⟨⟨hG.1.1.1, hv.2, hG.1.1.2.2.1, trivial⟩, hG.1.2.1, hG.1.2.2.1, hG.1.2.2.2⟩, hG.2⟩
theorem fnd_no {nm : Nat → Nat} {N w : Nat} (h : ¬ (fnd nm N w).isSome = true) (s : Nat) (hs : s < N) : nm s ≠ w := fun e => by
  apply h
  unfold fnd
  by_cases c : fa_first (fun s => decide (nm s = w)) N < N
  · rw [if_pos c]; rfl
  · have := fa_first_no (fun s => decide (nm s = w)) N s (by omega)
    rw [decide_eq_true e] at this; cases this
theorem pSoul_g {X : tTp} (hX : tpOk X) {i : Nat} {D : dft} {q : Nat × dft} (hG : dG D) (hi : i ≤ tN X) (hk : kd X i ≠ 0) (h : pSoul X i D = .inr q) : i < q.1 ∧ q.1 ≤ tN X ∧ dG q.2 := by
  unfold pSoul at h
  split at h
  · cases h
  split at h
  · cases h
  split at h
  · cases h
  rename_i c1 c2 c3
  have hm : isNm X (i + 1) = true := by simpa using c2
  cases hd : isKd X (i + 2) with
  | none => rw [hd] at h; cases h
  | some k =>
    rw [hd] at h
    simp only at h
    split at h
    · cases h
    rename_i c4
    cases hp : pNum X (i + 4) 0 20 with
    | inl e => rw [hp] at h; cases h
    | inr s =>
      rw [hp] at h
      simp only at h
      split at h
      · cases h
      rename_i c5
      cases hp2 : pNum X (i + 6) 0 60 with
      | inl e => rw [hp2] at h; cases h
      | inr t =>
        rw [hp2] at h
        injection h with h
        rw [← h]
        obtain ⟨hkd, hk3⟩ := isKd_s hd
        have w2 := nm_k hm
        have w3 : kd X (i + 2) ≠ 0 := fun z => by rw [tkc_0.mpr z] at hkd; omega
        have w4 : kd X (i + 3) ≠ 0 := wd_k (r := 2) (by simpa using c4)
        have w6 : kd X (i + 5) ≠ 0 := wd_k (r := 3) (by simpa using c5)
        have h7 := tN_s (tN_s (tN_s (tN_s (tN_s (tN_s (tN_s hi hk) (nz w2 (by decide))) w3) w4) (nz (pN_k hp) (by decide))) w6) (nz (pN_k hp2) (by decide))
        have hs := (pN_in hp).2
        have ht := (pN_in hp2).2
        have hw := wd_63 hX w2
        have hF : ∀ {α : Type} (f : Nat → α) (a : Nat) (v : α), fup f a v a = v := fun f a v => if_pos rfl
        have hFn : ∀ {α : Type} (f : Nat → α) (a b : Nat) (v : α), b ≠ a → fup f a v b = f b := fun f a b v hb => if_neg hb
        refine ⟨by show i < i + 7; omega, h7, ⟨⟨by show vN D.1 + 1 ≤ 6; omega, hG.1.1.2.1, hG.1.1.2.2.1, trivial⟩, fun s' hs' => ?_, hG.1.2.2.1, hG.1.2.2.2⟩, hG.2.1, fun a b hab => ?_, fun a b ha hb hab => ?_⟩
        · show fup (vK D.1) (vN D.1) k s' ≤ 3 ∧ fup (vS D.1) (vN D.1) s s' ≤ 20 ∧ fup (vD D.1) (vN D.1) t s' ≤ 60 ∧ fup D.2.1 (vN D.1) (wd X (i + 1)) s' < 2 ^ 63
          by_cases e : s' = vN D.1
          · rw [e, hF, hF, hF, hF]; exact ⟨hk3, hs, ht, hw⟩
          · rw [hFn _ _ _ _ e, hFn _ _ _ _ e, hFn _ _ _ _ e, hFn _ _ _ _ e]
            have : s' < vN D.1 + 1 := hs'
            exact hG.1.2.1 s' (by omega)
        · obtain ⟨x1, x2, x3, x4⟩ := hG.2.2.1 a b hab
          exact ⟨Nat.lt_succ_of_lt x1, Nat.lt_succ_of_lt x2, x3, x4⟩
        · have ha' : a < vN D.1 + 1 := ha
          have hb' : b < vN D.1 + 1 := hb
          have hab' : fup D.2.1 (vN D.1) (wd X (i + 1)) a = fup D.2.1 (vN D.1) (wd X (i + 1)) b := hab
          by_cases ea : a = vN D.1
          · by_cases eb : b = vN D.1
            · omega
            · rw [ea, hF, hFn _ _ _ _ eb] at hab'
              exact absurd hab'.symm (fnd_no c3 b (by omega))
          · by_cases eb : b = vN D.1
            · rw [eb, hF, hFn _ _ _ _ ea] at hab'
              exact absurd hab' (fnd_no c3 a (by omega))
            · rw [hFn _ _ _ _ ea, hFn _ _ _ _ eb] at hab'
              exact hG.2.2.2 a b (by omega) (by omega) hab'
theorem pTold_s {X : tTp} {nm : Nat → Nat} {N i s : Nat} (h : pTold X nm N i = .inr s) : kd X i = 2 ∧ s < N := by
  unfold pTold at h
  split at h
  · cases h
  rename_i c
  cases hf : fnd nm N (wd X i) with
  | none => rw [hf] at h; cases h
  | some t =>
    rw [hf] at h
    injection h with h
    rw [← h]
    exact ⟨nm_k (by simpa using c), (fnd_lt hf).1⟩
theorem tb_or {x b o : Nat} : (x ||| 2 ^ b).testBit o = (x.testBit o || decide (b = o)) := by rw [Nat.testBit_or, Nat.testBit_two_pow]
theorem pHurts_g {X : tTp} {i : Nat} {D : dft} {q : Nat × dft} (hG : dG D) (hi : i ≤ tN X) (hk : kd X i ≠ 0) (h : pHurts X i D = .inr q) : i < q.1 ∧ q.1 ≤ tN X ∧ dG q.2 := by
  unfold pHurts at h
  cases ha : pTold X D.2.1 (vN D.1) (i + 1) with
  | inl e => rw [ha] at h; cases h
  | inr a =>
    rw [ha] at h
    simp only at h
    cases hb : pTold X D.2.1 (vN D.1) (i + 2) with
    | inl e => rw [hb] at h; cases h
    | inr b =>
      rw [hb] at h
      simp only at h
      split at h
      · cases h
      rename_i c
      injection h with h
      rw [← h]
      obtain ⟨ka, la⟩ := pTold_s ha
      obtain ⟨kb, lb⟩ := pTold_s hb
      have hne : b ≠ a := fun z => c (Or.inl z)
      have h3 := tN_s (tN_s (tN_s hi hk) (nz ka (by decide))) (nz kb (by decide))
      have h6 := hG.1.1.1
      have H : ∀ s, vH (dH D a b).1 s = if s = b then vH D.1 b ||| 2 ^ a else if s = a then vH D.1 a ||| 2 ^ b else vH D.1 s := fun s => rfl
      have p6 : ∀ x, x < 6 → 2 ^ x < 64 := by decide
      have T : ∀ s o, (vH (dH D a b).1 s).testBit o = true ↔ (vH D.1 s).testBit o = true ∨ (s = a ∧ o = b) ∨ (s = b ∧ o = a) := fun s o => by
        rw [H]
        by_cases sb : s = b
        · rw [if_pos sb, tb_or, Bool.or_eq_true, decide_eq_true_eq, sb]
          constructor
          · rintro (x | x)
            · exact Or.inl x
            · exact Or.inr (Or.inr ⟨rfl, x.symm⟩)
          · rintro (x | ⟨x, y⟩ | ⟨x, y⟩)
            · exact Or.inl x
            · omega
            · exact Or.inr y.symm
        · rw [if_neg sb]
          by_cases sa : s = a
          · rw [if_pos sa, tb_or, Bool.or_eq_true, decide_eq_true_eq, sa]
            constructor
            · rintro (x | x)
              · exact Or.inl x
              · exact Or.inr (Or.inl ⟨rfl, x.symm⟩)
            · rintro (x | ⟨x, y⟩ | ⟨x, y⟩)
              · exact Or.inl x
              · exact Or.inr y.symm
              · omega
          · rw [if_neg sa]
            constructor
            · exact fun x => Or.inl x
            · rintro (x | ⟨x, y⟩ | ⟨x, y⟩)
              · exact x
              · omega
              · omega
      refine ⟨by show i < i + 3; omega, h3, ⟨hG.1.1, hG.1.2.1, fun s => ?_, hG.1.2.2.2⟩, hG.2.1, fun s o hso => ?_, hG.2.2.2⟩
      · rw [H]
        by_cases sb : s = b
        · rw [if_pos sb]; exact Nat.or_lt_two_pow (n := 6) (hG.1.2.2.1 b) (p6 a (by omega))
        · rw [if_neg sb]
          by_cases sa : s = a
          · rw [if_pos sa]; exact Nat.or_lt_two_pow (n := 6) (hG.1.2.2.1 a) (p6 b (by omega))
          · rw [if_neg sa]; exact hG.1.2.2.1 s
      · show s < vN D.1 ∧ o < vN D.1 ∧ s ≠ o ∧ (vH (dH D a b).1 o).testBit s = true
        rcases (T s o).mp hso with x | ⟨x, y⟩ | ⟨x, y⟩
        · obtain ⟨x1, x2, x3, x4⟩ := hG.2.2.1 s o x
          exact ⟨x1, x2, x3, (T o s).mpr (Or.inl x4)⟩
        · exact ⟨by omega, by omega, by omega, (T o s).mpr (Or.inr (Or.inr ⟨y, x⟩))⟩
        · exact ⟨by omega, by omega, by omega, (T o s).mpr (Or.inr (Or.inl ⟨y, x⟩))⟩
theorem pCold_g {X : tTp} {i : Nat} {D : dft} {q : Nat × dft} (hG : dG D) (hi : i ≤ tN X) (h : pCold X i D = .inr q) : i < q.1 ∧ q.1 ≤ tN X ∧ dG q.2 := by
  obtain ⟨a, b, c⟩ := pCold_ok hG.1 h
  refine ⟨by omega, by rw [b]; exact tN_s hi (nz c (by decide)), a, ?_⟩
  unfold pCold at h
  cases hp : pNum X i 0 9 with
  | inl e => rw [hp] at h; cases h
  | inr v =>
    rw [hp] at h
    simp only at h
    split at h
    · cases h
    injection h with h
    rw [← h]
    exact hG.2
theorem pFrL_g {X : tTp} : ∀ m i D q, dG D → i ≤ tN X → pFrL X m i D = .inr q → i ≤ q.1 ∧ q.1 ≤ tN X ∧ dG q.2
  | 0, i, D, q, hG, hi, h => by unfold pFrL at h; injection h with h; rw [← h]; exact ⟨Nat.le_refl _, hi, hG⟩
  | m + 1, i, D, q, hG, hi, h => by
    unfold pFrL at h
    split at h
    · cases hp : pCold X i D with
      | inl e => rw [hp] at h; cases h
      | inr r =>
        rw [hp] at h
        simp only at h
        obtain ⟨a, b, c⟩ := pCold_g hG hi hp
        obtain ⟨a', b', c'⟩ := pFrL_g m r.1 r.2 q c b h
        exact ⟨by omega, b', c'⟩
    · injection h with h; rw [← h]; exact ⟨Nat.le_refl _, hi, hG⟩
theorem pFrost_g {X : tTp} {i : Nat} {D : dft} {q : Nat × dft} (hG : dG D) (hi : i ≤ tN X) (hk : kd X i ≠ 0) (h : pFrost X i D = .inr q) : i < q.1 ∧ q.1 ≤ tN X ∧ dG q.2 := by
  unfold pFrost at h
  split at h
  · cases h
  cases hp : pCold X (i + 1) D with
  | inl e => rw [hp] at h; cases h
  | inr r =>
    rw [hp] at h
    simp only at h
    obtain ⟨a, b, c⟩ := pCold_g hG (tN_s hi hk) hp
    obtain ⟨a', b', c'⟩ := pFrL_g 1000 r.1 r.2 q c b h
    exact ⟨by omega, b', c'⟩
theorem pLaw_g {X : tTp} (hX : tpOk X) {i : Nat} {D : dft} {q : Nat × dft} (hG : dG D) (hi : i ≤ tN X) (hk : kd X i ≠ 0) (h : pLaw X i D = .inr q) : i < q.1 ∧ q.1 ≤ tN X ∧ dG q.2 := by
  unfold pLaw at h
  split at h
  · cases h
  cases hp : lv0 X (pPart X 5) (i + 1) [] with
  | inl e => rw [hp] at h; cases h
  | inr r =>
    rw [hp] at h
    injection h with h
    rw [← h]
    obtain ⟨a, b, c⟩ := law_ok hX (tN_s hi hk) hp
    exact ⟨by show i < r.1; omega, c, hG.1, a, hG.2.2⟩
theorem pLine_g {X : tTp} (hX : tpOk X) {i : Nat} {D : dft} {q : Nat × dft} (hG : dG D) (hi : i ≤ tN X) (h : pLine X i D = .inr q) : i < q.1 ∧ q.1 ≤ tN X ∧ dG q.2 := by
  unfold pLine at h
  split at h
  · rename_i c; exact pWall_g hG hi (wd_k c) h
  split at h
  · rename_i c; exact pSoul_g hX hG hi (wd_k c) h
  split at h
  · rename_i c; exact pHurts_g hG hi (wd_k c) h
  split at h
  · rename_i c; exact pFrost_g hG hi (wd_k c) h
  split at h
  · rename_i c; exact pLaw_g hX hG hi (wd_k c) h
  cases h
def pRd (X : tTp) : Nat → Nat → dft → Nat ⊕ dft
  | 0, _, D => .inr D
  | m + 1, i, D => if kd X i = 0 then .inr D else (match pLine X i D with
    | .inl c => .inl c
    | .inr q => if isSg X q.1 59 = true then pRd X m (q.1 + 1) q.2 else .inl (wr X q.1 1))
def d0 : dft := ((0, 0, 0, 0, fun _ => 0, fun _ => 0, fun _ => 0, fun _ => 0, fun _ => 0, [-1, -2, -8]), fun _ => 0, false)
theorem d0_g : dG d0 := by
  refine ⟨⟨⟨by decide, by decide, by decide, trivial⟩, fun s hs => absurd hs (Nat.not_lt_zero _), fun s => by show 0 < 64; decide, fun j hj => absurd hj (Nat.not_lt_zero _)⟩, ⟨by decide, by decide, by decide⟩, fun s o h => ?_, fun s t hs => absurd hs (Nat.not_lt_zero _)⟩
  have h' : (0 : Nat).testBit o = true := h
  rw [Nat.zero_testBit] at h'; cases h'
theorem pRd_g {X : tTp} (hX : tpOk X) : ∀ m i D E, dG D → i ≤ tN X → pRd X m i D = .inr E → dG E
  | 0, i, D, E, hG, hi, h => by unfold pRd at h; injection h with h; rw [← h]; exact hG
  | m + 1, i, D, E, hG, hi, h => by
    unfold pRd at h
    split at h
    · injection h with h; rw [← h]; exact hG
    cases hp : pLine X i D with
    | inl e => rw [hp] at h; cases h
    | inr q =>
      rw [hp] at h
      simp only at h
      obtain ⟨a, b, c⟩ := pLine_g hX hG hi hp
      split at h
      · rename_i z; exact pRd_g hX m _ _ E c (tN_s b (sg_k z)) h
      · cases h
/-- the loop's bound is never met -/
theorem pRd_m {X : tTp} (hX : tpOk X) : ∀ m m' i D, dG D → i ≤ tN X → tN X ≤ i + m → tN X ≤ i + m' → pRd X m i D = pRd X m' i D
  | 0, 0, i, D, hG, hi, h1, h2 => rfl
  | 0, m' + 1, i, D, hG, hi, h1, h2 => by
    have e : i = tN X := by omega
    unfold pRd
    rw [if_pos (by rw [e]; exact tN_0 X)]
  | m + 1, 0, i, D, hG, hi, h1, h2 => by
    have e : i = tN X := by omega
    unfold pRd
    rw [if_pos (by rw [e]; exact tN_0 X)]
  | m + 1, m' + 1, i, D, hG, hi, h1, h2 => by
    unfold pRd
    split
    · rfl
    cases hp : pLine X i D with
    | inl e => rfl
    | inr q =>
      obtain ⟨a, b, c⟩ := pLine_g hX hG hi hp
      show (if _ then _ else _) = (if _ then _ else _)
      split
      · rename_i z; exact pRd_m hX m m' _ _ c (tN_s b (sg_k z)) (by omega) (by omega)
      · rfl
