/-- a wall written: states, spots, the week -/
def am_wl (μ : am_M2) (w : Nat) (a b : Nat → Int32) (x : Int32) : am_M2 := am_up (am_rw (am_rw μ (w + 1) a) (w + 2) b) w 3 x
/-- what a WEEK does -/
def wkSt (V : sVal) (st : Nat → Nat) (pl : Nat → Option Nat) (t c : Nat) (s : Nat) : Nat := if s < vN V then (if sFall V pl t c s then 3 else if st s = 0 ∧ vLeak V s = true ∧ vD V s ≤ t then 4 else st s) else st s
def wkPl (V : sVal) (pl : Nat → Option Nat) (t c : Nat) (s : Nat) : Option Nat := if s < vN V then (if sFall V pl t c s then none else pl s) else pl s
theorem sFall_some {V : sVal} {pl : Nat → Option Nat} {t c s : Nat} (h : sFall V pl t c s = true) : (pl s).isSome = true := by
  unfold sFall at h
  cases hq : pl s with
  | none => rw [hq] at h; cases h
  | some q => rfl
theorem wk_I {V : sVal} {st : Nat → Nat} {pl : Nat → Option Nat} {t c : Nat} (hI : sI (vN V) (vP V) st pl) : sI (vN V) (vP V) (wkSt V st pl t c) (wkPl V pl t c) := by
  intro s hs
  obtain ⟨h1, h2, h3, h4, h5⟩ := hI s hs
  have hsub : ∀ s, wkPl V pl t c s = none ∨ wkPl V pl t c s = pl s := by
    intro s
    unfold wkPl
    split
    · split
      · exact Or.inl rfl
      · exact Or.inr rfl
    · exact Or.inr rfl
  refine ⟨?_, ?_, fun p hp => ?_, fun hn => ?_, fun s' hs' hne hnn => ?_⟩
  · unfold wkSt; split
    · split
      · omega
      · split <;> omega
    · omega
  · unfold wkSt wkPl
    by_cases hN : s < vN V
    · simp only [hN, if_true]
      cases hf : sFall V pl t c s with
      | true => simp
      | false =>
        simp only [Bool.false_eq_true, if_false]
        by_cases hz : st s = 0 ∧ vLeak V s = true ∧ vD V s ≤ t
        · rw [if_pos hz]
          have : ¬ (pl s).isSome = true := fun q => by have := h2.mp q; omega
          simp_all
        · rw [if_neg hz]; exact h2
    · simp only [hN, if_false]; exact h2
  · rcases hsub s with q | q
    · rw [q] at hp; cases hp
    · rw [q] at hp; exact h3 p hp
  · unfold wkSt; rw [if_neg (by omega)]; exact h4 hn
  · rcases hsub s with q | q
    · exact absurd q hnn
    · rcases hsub s' with q' | q'
      · rw [q']; exact hnn
      · rw [q, q']; rw [q] at hnn; exact h5 s' hs' hne hnn
theorem wk_upd {a : Nat → Int32} {j : Nat} {st st2 : Nat → Nat} {v : Int32} (h : ∀ s, s < 6 → a s = nI (if s < j then st2 s else st s)) (hv : v = nI (st2 j)) : ∀ s, s < 6 → upd a j v s = nI (if s < j + 1 then st2 s else st s) := by
  intro s hs
  by_cases z : s = j
  · subst z; rw [pk_us, hv, if_pos (by omega)]
  · rw [pk_un z, h s hs]
    by_cases z2 : s < j
    · rw [if_pos z2, if_pos (by omega)]
    · rw [if_neg z2, if_neg (by omega)]
theorem wk_keep {a : Nat → Int32} {j : Nat} {st st2 : Nat → Nat} (h : ∀ s, s < 6 → a s = nI (if s < j then st2 s else st s)) (hv : st2 j = st j) : ∀ s, s < 6 → a s = nI (if s < j + 1 then st2 s else st s) := by
  intro s hs
  rw [h s hs]
  by_cases z2 : s < j
  · rw [if_pos z2, if_pos (by omega)]
  · by_cases z : s = j
    · subst z; rw [if_neg z2, if_pos (by omega), hv]
    · rw [if_neg z2, if_neg (by omega)]
theorem wk_updS {a : Nat → Int32} {j : Nat} {st st2 : Nat → Option Nat} {v : Int32} (h : ∀ s, s < 6 → a s = sn_spot (if s < j then st2 s else st s)) (hv : v = sn_spot (st2 j)) : ∀ s, s < 6 → upd a j v s = sn_spot (if s < j + 1 then st2 s else st s) := by
  intro s hs
  by_cases z : s = j
  · subst z; rw [pk_us, hv, if_pos (by omega)]
  · rw [pk_un z, h s hs]
    by_cases z2 : s < j
    · rw [if_pos z2, if_pos (by omega)]
    · rw [if_neg z2, if_neg (by omega)]
theorem wk_keepS {a : Nat → Int32} {j : Nat} {st st2 : Nat → Option Nat} (h : ∀ s, s < 6 → a s = sn_spot (if s < j then st2 s else st s)) (hv : st2 j = st j) : ∀ s, s < 6 → a s = sn_spot (if s < j + 1 then st2 s else st s) := by
  intro s hs
  rw [h s hs]
  by_cases z2 : s < j
  · rw [if_pos z2, if_pos (by omega)]
  · by_cases z : s = j
    · subst z; rw [if_neg z2, if_pos (by omega), hv]
    · rw [if_neg z2, if_neg (by omega)]
theorem am_rw_up1_35 (μ : am_M2) (a b : Nat → Int32) (k : Nat) (v : Int32) : am_up (am_rw (am_rw μ 36 a) 37 b) 36 k v = am_rw (am_rw μ 36 (upd a k v)) 37 b := by
  funext i j
  unfold am_up am_rw upd
  by_cases h1 : i = 36
  · subst h1; simp
  · simp [h1]
theorem s_pwL35 (d : Nat) (n c : Nat) {V : sVal} {st : Nat → Nat} {pl : Nat → Option Nat} {t : Nat} {μ : am_M2} (ν : am_N2) (hV : xVal μ V) (hO : vOk V) (hW : xW μ 35 st pl t) (hI : sI (vN V) (vP V) st pl) (ht : t < 2 ^ 30) : ∀ (m j : Nat) (g : Nat → Int32) (a : Nat → Int32) (b : Nat → Int32), j + m = vN V → (∀ s, s < 6 → a s = nI (if s < j then wkSt V st pl t c s else st s)) ∧ (∀ s, s < 6 → b s = sn_spot (if s < j then wkPl V pl t c s else pl s)) → am_w (d + 1) (Option.some FieldType.int) am_g85 8 [some (.ref 35), some (.int (nI c)), some (.int (nI (sBits (sFall V pl t c) (vN V)))), some (.int (nI j))] [] (am_hp n (am_rw (am_rw (am_rw μ 15 g) 36 a) 37 b) ν) (fun y => ∃ (g a b : Nat → Int32), y = (some (.int (nI (sBits (sFall V pl t c) (vN V)))), am_hp n (am_wl (am_rw μ 15 g) 35 a b (nI (t + 1))) ν) ∧ (∀ s, s < 6 → a s = nI (wkSt V st pl t c s)) ∧ (∀ s, s < 6 → b s = sn_spot (wkPl V pl t c s))) := by
  intro m
  induction m with
  | zero =>
    intro j g a b hj hinv
    have h6 := hO.1.1
    refine am_q_iload_n rfl rfl ?_
    refine am_q_aload_n rfl rfl ?_
    refine am_q_gr rfl rfl rfl ?_
    refine am_q_gi rfl rfl rfl hV.1.1 ?_
    refine am_q_icmp_ge rfl (fun c_16 => ?_) (fun c_16 => absurd (nI_le (by omega) (by omega)) c_16)
    refine am_q_aload_n rfl rfl ?_
    refine am_q_dupr rfl ?_
    refine am_q_gi rfl rfl rfl hW.2.2 ?_
    refine am_q_iconst (v := nI 1) rfl rfl ?_
    refine am_q_iadd rfl (by first | exact nI_add _ _ | rfl) ?_
    refine am_q_pi rfl rfl rfl (Or.inl rfl) ?_
    refine am_q_iload_n rfl rfl ?_
    refine am_q_ireturn rfl rfl rfl ?_
    refine ⟨g, a, b, rfl, fun s hs => ?_, fun s hs => ?_⟩
    · rw [hinv.1 s hs]; congr 1; split
      · rfl
      · unfold wkSt; rw [if_neg (by omega)]
    · rw [hinv.2 s hs]; congr 1; split
      · rfl
      · unfold wkPl; rw [if_neg (by omega)]
  | succ m ih =>
    intro j g a b hj hinv
    have h6 := hO.1.1
    refine am_q_iload_n rfl rfl ?_
    refine am_q_aload_n rfl rfl ?_
    refine am_q_gr rfl rfl rfl ?_
    refine am_q_gi rfl rfl rfl hV.1.1 ?_
    refine am_q_icmp_ge rfl (fun c_16 => absurd c_16 (nI_ge (by omega) (by omega))) (fun c_16 => ?_)
    refine am_q_iload_n rfl rfl ?_
    refine am_q_iload_n rfl rfl ?_
    refine am_q_call rfl rfl (s_hasN _ _ j (Nat.lt_of_lt_of_le (sn_64 hO.1.1) (by decide)) (by omega) _) rfl ?_
    rw [sBits_tb, decide_eq_true (show j < vN V by omega), Bool.true_and]
    refine am_q_if_eqB rfl (fun c_24 => ?_) (fun c_24 => ?_)
    · have e2 : wkPl V pl t c j = pl j := by simp [wkPl, c_24]
      have i2 := wk_keepS hinv.2 e2
      refine am_q_aload_n rfl rfl ?_
      refine am_q_gr rfl rfl rfl ?_
      refine am_q_iload_n rfl rfl ?_
      refine am_q_iald rfl rfl (by first | exact am_ix_nI (by omega) (by omega) | rfl) ((hinv.1 j (by omega)).trans (by rw [if_neg (Nat.lt_irrefl j)])) ?_
      refine am_q_if_ne rfl (fun c_50 => ?_) (fun c_50 => ?_)
      · have c_50 : ¬ st j = 0 := fun q => c_50 (by rw [q]; rfl)
        have e1 : wkSt V st pl t c j = st j := by simp [wkSt, c_24, c_50]
        refine am_q_iinc [some _, some _, some _, some _] rfl (c := nI 1) rfl rfl (Nat.le_of_ble_eq_true rfl) (nI_add _ _) rfl ?_
        refine am_q_goto rfl ?_
        exact ih (j + 1) g a b (by omega) ⟨wk_keep hinv.1 e1, i2⟩
      · have c_50 : st j = 0 := (nI_eq (by have := (hI j (by omega)).1; omega) (by omega)).mp c_50
        refine am_q_aload_n rfl rfl ?_
        refine am_q_gr rfl rfl rfl ?_
        refine am_q_iload_n rfl rfl ?_
        refine am_q_call rfl rfl (s_canLeak _ n j (by omega) ν (μ := am_rw (am_rw (am_rw μ 15 g) 36 a) 37 b) hV hO) rfl ?_
        refine am_q_if_eqB rfl (fun c_61 => ?_) (fun c_61 => ?_)
        · have e1 : wkSt V st pl t c j = st j := by simp [wkSt, c_24, c_61]
          refine am_q_iinc [some _, some _, some _, some _] rfl (c := nI 1) rfl rfl (Nat.le_of_ble_eq_true rfl) (nI_add _ _) rfl ?_
          refine am_q_goto rfl ?_
          exact ih (j + 1) g a b (by omega) ⟨wk_keep hinv.1 e1, i2⟩
        · refine am_q_aload_n rfl rfl ?_
          refine am_q_gr rfl rfl rfl ?_
          refine am_q_gr rfl rfl rfl ?_
          refine am_q_iload_n rfl rfl ?_
          refine am_q_iald rfl rfl (by first | exact am_ix_nI (by omega) (by omega) | rfl) (hV.2.2.2.1 j (by omega)).2.2.1 ?_
          refine am_q_aload_n rfl rfl ?_
          refine am_q_gi rfl rfl rfl hW.2.2 ?_
          refine am_q_igtN rfl (by have := (hO.2.1 j (by omega)).2.2.1; omega) (by omega) (fun c_77 => ?_) (fun c_77 => ?_)
          · have e1 : wkSt V st pl t c j = st j := by simp [wkSt, c_24, show ¬ vD V j ≤ t by omega]
            refine am_q_iinc [some _, some _, some _, some _] rfl (c := nI 1) rfl rfl (Nat.le_of_ble_eq_true rfl) (nI_add _ _) rfl ?_
            refine am_q_goto rfl ?_
            exact ih (j + 1) g a b (by omega) ⟨wk_keep hinv.1 e1, i2⟩
          · have e1 : wkSt V st pl t c j = 4 := by simp [wkSt, c_24, c_50, c_61, c_77, show j < vN V by omega]
            have i1 := wk_upd (v := nI 4) hinv.1 (by rw [e1])
            refine am_q_aload_n rfl rfl ?_
            refine am_q_gr rfl rfl rfl ?_
            refine am_q_iload_n rfl rfl ?_
            refine am_q_iconst (v := nI 4) rfl rfl ?_
            refine am_q_iast rfl rfl (by first | exact am_ix_nI (by omega) (by omega) | rfl) rfl ?_
            rw [am_rw_up1_35]
            refine am_q_iinc [some _, some _, some _, some _] rfl (c := nI 1) rfl rfl (Nat.le_of_ble_eq_true rfl) (nI_add _ _) rfl ?_
            refine am_q_goto rfl ?_
            exact ih (j + 1) g _ _ (by omega) ⟨i1, i2⟩
    · have e1 : wkSt V st pl t c j = 3 := by simp [wkSt, c_24, show j < vN V by omega]
      have e2 : wkPl V pl t c j = none := by simp [wkPl, c_24, show j < vN V by omega]
      have i1 := wk_upd (v := nI 3) hinv.1 (by rw [e1])
      have i2 := wk_updS (v := nI 0) hinv.2 (by rw [e2]; rfl)
      refine am_q_aload_n rfl rfl ?_
      refine am_q_gr rfl rfl rfl ?_
      refine am_q_iload_n rfl rfl ?_
      refine am_q_iconst (v := nI 3) rfl rfl ?_
      refine am_q_iast rfl rfl (by first | exact am_ix_nI (by omega) (by omega) | rfl) rfl ?_
      rw [am_rw_up1_35]
      refine am_q_aload_n rfl rfl ?_
      refine am_q_gr rfl rfl rfl ?_
      refine am_q_iload_n rfl rfl ?_
      refine am_q_iconst (v := nI 0) rfl rfl ?_
      refine am_q_iast rfl rfl (by first | exact am_ix_nI (by omega) (by omega) | rfl) rfl ?_
      rw [am_rw_up]
      refine am_q_goto rfl ?_
      refine am_q_iinc [some _, some _, some _, some _] rfl (c := nI 1) rfl rfl (Nat.le_of_ble_eq_true rfl) (nI_add _ _) rfl ?_
      refine am_q_goto rfl ?_
      exact ih (j + 1) g _ _ (by omega) ⟨i1, i2⟩

theorem am_rw_two (μ : am_M2) (g : Nat → Int32) {x y : Nat} (hx : x ≠ 15) (hy : y ≠ 15) : am_rw (am_rw (am_rw μ 15 g) x (μ x)) y (μ y) = am_rw μ 15 g := by
  funext i k
  unfold am_rw
  by_cases h1 : i = y
  · subst h1; simp [hy]
  · by_cases h2 : i = x
    · subst h2; simp [h1, hx]
    · simp [h1, h2]
/-- StoneSecrets$Wall.passWeek(I)I -/
theorem s_passWeek35 (d : Nat) (n c : Nat) {V : sVal} {st : Nat → Nat} {pl : Nat → Option Nat} {t : Nat} {μ : am_M2} (ν : am_N2) (hV : xVal μ V) (hO : vOk V) (hW : xW μ 35 st pl t) (hI : sI (vN V) (vP V) st pl) (ht : t < 2 ^ 30) : ∃ (g a b : Nat → Int32), am_run (d + 5) 85 [.ref 35, .int (nI c)] (am_hp n μ ν) = some (some (.int (nI (sBits (sFall V pl t c) (vN V)))), am_hp n (am_wl (am_rw μ 15 g) 35 a b (nI (t + 1))) ν) ∧ (∀ s, s < 6 → a s = nI (wkSt V st pl t c s)) ∧ (∀ s, s < 6 → b s = sn_spot (wkPl V pl t c s)) := by
  obtain ⟨g0, hfb⟩ := s_fallingBy35 d n c ν hV hO hW hI
  have key : ∃ r, am_run (d + 5) 85 [.ref 35, .int (nI c)] (am_hp n μ ν) = some r ∧ ∃ (g a b : Nat → Int32), r = (some (.int (nI (sBits (sFall V pl t c) (vN V)))), am_hp n (am_wl (am_rw μ 15 g) 35 a b (nI (t + 1))) ν) ∧ (∀ s, s < 6 → a s = nI (wkSt V st pl t c s)) ∧ (∀ s, s < 6 → b s = sn_spot (wkPl V pl t c s)) := am_run_wE (k := 85) (d := d + 4) rfl rfl (Nat.le_of_ble_eq_true rfl) [some (.ref 35), some (.int (nI c)), none, none] rfl (by
    refine am_q_aload_n rfl rfl ?_
    refine am_q_iload_n rfl rfl ?_
    refine am_q_call rfl rfl (hfb) rfl ?_
    refine am_q_istore_n [some _, some _, some _, none] rfl (Nat.le_of_ble_eq_true rfl) rfl ?_
    refine am_q_iconst (v := nI 0) rfl rfl ?_
    refine am_q_istore_n [some _, some _, some _, some _] rfl (Nat.le_of_ble_eq_true rfl) rfl ?_
    have e := s_pwL35 (d + 3) n c ν hV hO hW hI ht (vN V) 0 g0 (μ 36) (μ 37) (by omega) ⟨fun s hs => by rw [if_neg (by omega)]; exact hW.1 s hs, fun s hs => by rw [if_neg (by omega)]; exact hW.2.1 s hs⟩
    rw [show am_rw (am_rw (am_rw μ 15 g0) 36 (μ 36)) 37 (μ 37) = am_rw μ 15 g0 from am_rw_two μ g0 (by decide) (by decide)] at e
    exact e)
  obtain ⟨r, h1, g, a, b, h2, h3⟩ := key
  exact ⟨g, a, b, by rw [h1, h2], h3⟩

theorem am_rw_up1_38 (μ : am_M2) (a b : Nat → Int32) (k : Nat) (v : Int32) : am_up (am_rw (am_rw μ 39 a) 40 b) 39 k v = am_rw (am_rw μ 39 (upd a k v)) 40 b := by
  funext i j
  unfold am_up am_rw upd
  by_cases h1 : i = 39
  · subst h1; simp
  · simp [h1]
theorem s_pwL38 (d : Nat) (n c : Nat) {V : sVal} {st : Nat → Nat} {pl : Nat → Option Nat} {t : Nat} {μ : am_M2} (ν : am_N2) (hV : xVal μ V) (hO : vOk V) (hW : xW μ 38 st pl t) (hI : sI (vN V) (vP V) st pl) (ht : t < 2 ^ 30) : ∀ (m j : Nat) (g : Nat → Int32) (a : Nat → Int32) (b : Nat → Int32), j + m = vN V → (∀ s, s < 6 → a s = nI (if s < j then wkSt V st pl t c s else st s)) ∧ (∀ s, s < 6 → b s = sn_spot (if s < j then wkPl V pl t c s else pl s)) → am_w (d + 1) (Option.some FieldType.int) am_g85 8 [some (.ref 38), some (.int (nI c)), some (.int (nI (sBits (sFall V pl t c) (vN V)))), some (.int (nI j))] [] (am_hp n (am_rw (am_rw (am_rw μ 15 g) 39 a) 40 b) ν) (fun y => ∃ (g a b : Nat → Int32), y = (some (.int (nI (sBits (sFall V pl t c) (vN V)))), am_hp n (am_wl (am_rw μ 15 g) 38 a b (nI (t + 1))) ν) ∧ (∀ s, s < 6 → a s = nI (wkSt V st pl t c s)) ∧ (∀ s, s < 6 → b s = sn_spot (wkPl V pl t c s))) := by
  intro m
  induction m with
  | zero =>
    intro j g a b hj hinv
    have h6 := hO.1.1
    refine am_q_iload_n rfl rfl ?_
    refine am_q_aload_n rfl rfl ?_
    refine am_q_gr rfl rfl rfl ?_
    refine am_q_gi rfl rfl rfl hV.1.1 ?_
    refine am_q_icmp_ge rfl (fun c_16 => ?_) (fun c_16 => absurd (nI_le (by omega) (by omega)) c_16)
    refine am_q_aload_n rfl rfl ?_
    refine am_q_dupr rfl ?_
    refine am_q_gi rfl rfl rfl hW.2.2 ?_
    refine am_q_iconst (v := nI 1) rfl rfl ?_
    refine am_q_iadd rfl (by first | exact nI_add _ _ | rfl) ?_
    refine am_q_pi rfl rfl rfl (Or.inl rfl) ?_
    refine am_q_iload_n rfl rfl ?_
    refine am_q_ireturn rfl rfl rfl ?_
    refine ⟨g, a, b, rfl, fun s hs => ?_, fun s hs => ?_⟩
    · rw [hinv.1 s hs]; congr 1; split
      · rfl
      · unfold wkSt; rw [if_neg (by omega)]
    · rw [hinv.2 s hs]; congr 1; split
      · rfl
      · unfold wkPl; rw [if_neg (by omega)]
  | succ m ih =>
    intro j g a b hj hinv
    have h6 := hO.1.1
    refine am_q_iload_n rfl rfl ?_
    refine am_q_aload_n rfl rfl ?_
    refine am_q_gr rfl rfl rfl ?_
    refine am_q_gi rfl rfl rfl hV.1.1 ?_
    refine am_q_icmp_ge rfl (fun c_16 => absurd c_16 (nI_ge (by omega) (by omega))) (fun c_16 => ?_)
    refine am_q_iload_n rfl rfl ?_
    refine am_q_iload_n rfl rfl ?_
    refine am_q_call rfl rfl (s_hasN _ _ j (Nat.lt_of_lt_of_le (sn_64 hO.1.1) (by decide)) (by omega) _) rfl ?_
    rw [sBits_tb, decide_eq_true (show j < vN V by omega), Bool.true_and]
    refine am_q_if_eqB rfl (fun c_24 => ?_) (fun c_24 => ?_)
    · have e2 : wkPl V pl t c j = pl j := by simp [wkPl, c_24]
      have i2 := wk_keepS hinv.2 e2
      refine am_q_aload_n rfl rfl ?_
      refine am_q_gr rfl rfl rfl ?_
      refine am_q_iload_n rfl rfl ?_
      refine am_q_iald rfl rfl (by first | exact am_ix_nI (by omega) (by omega) | rfl) ((hinv.1 j (by omega)).trans (by rw [if_neg (Nat.lt_irrefl j)])) ?_
      refine am_q_if_ne rfl (fun c_50 => ?_) (fun c_50 => ?_)
      · have c_50 : ¬ st j = 0 := fun q => c_50 (by rw [q]; rfl)
        have e1 : wkSt V st pl t c j = st j := by simp [wkSt, c_24, c_50]
        refine am_q_iinc [some _, some _, some _, some _] rfl (c := nI 1) rfl rfl (Nat.le_of_ble_eq_true rfl) (nI_add _ _) rfl ?_
        refine am_q_goto rfl ?_
        exact ih (j + 1) g a b (by omega) ⟨wk_keep hinv.1 e1, i2⟩
      · have c_50 : st j = 0 := (nI_eq (by have := (hI j (by omega)).1; omega) (by omega)).mp c_50
        refine am_q_aload_n rfl rfl ?_
        refine am_q_gr rfl rfl rfl ?_
        refine am_q_iload_n rfl rfl ?_
        refine am_q_call rfl rfl (s_canLeak _ n j (by omega) ν (μ := am_rw (am_rw (am_rw μ 15 g) 39 a) 40 b) hV hO) rfl ?_
        refine am_q_if_eqB rfl (fun c_61 => ?_) (fun c_61 => ?_)
        · have e1 : wkSt V st pl t c j = st j := by simp [wkSt, c_24, c_61]
          refine am_q_iinc [some _, some _, some _, some _] rfl (c := nI 1) rfl rfl (Nat.le_of_ble_eq_true rfl) (nI_add _ _) rfl ?_
          refine am_q_goto rfl ?_
          exact ih (j + 1) g a b (by omega) ⟨wk_keep hinv.1 e1, i2⟩
        · refine am_q_aload_n rfl rfl ?_
          refine am_q_gr rfl rfl rfl ?_
          refine am_q_gr rfl rfl rfl ?_
          refine am_q_iload_n rfl rfl ?_
          refine am_q_iald rfl rfl (by first | exact am_ix_nI (by omega) (by omega) | rfl) (hV.2.2.2.1 j (by omega)).2.2.1 ?_
          refine am_q_aload_n rfl rfl ?_
          refine am_q_gi rfl rfl rfl hW.2.2 ?_
          refine am_q_igtN rfl (by have := (hO.2.1 j (by omega)).2.2.1; omega) (by omega) (fun c_77 => ?_) (fun c_77 => ?_)
          · have e1 : wkSt V st pl t c j = st j := by simp [wkSt, c_24, show ¬ vD V j ≤ t by omega]
            refine am_q_iinc [some _, some _, some _, some _] rfl (c := nI 1) rfl rfl (Nat.le_of_ble_eq_true rfl) (nI_add _ _) rfl ?_
            refine am_q_goto rfl ?_
            exact ih (j + 1) g a b (by omega) ⟨wk_keep hinv.1 e1, i2⟩
          · have e1 : wkSt V st pl t c j = 4 := by simp [wkSt, c_24, c_50, c_61, c_77, show j < vN V by omega]
            have i1 := wk_upd (v := nI 4) hinv.1 (by rw [e1])
            refine am_q_aload_n rfl rfl ?_
            refine am_q_gr rfl rfl rfl ?_
            refine am_q_iload_n rfl rfl ?_
            refine am_q_iconst (v := nI 4) rfl rfl ?_
            refine am_q_iast rfl rfl (by first | exact am_ix_nI (by omega) (by omega) | rfl) rfl ?_
            rw [am_rw_up1_38]
            refine am_q_iinc [some _, some _, some _, some _] rfl (c := nI 1) rfl rfl (Nat.le_of_ble_eq_true rfl) (nI_add _ _) rfl ?_
            refine am_q_goto rfl ?_
            exact ih (j + 1) g _ _ (by omega) ⟨i1, i2⟩
    · have e1 : wkSt V st pl t c j = 3 := by simp [wkSt, c_24, show j < vN V by omega]
      have e2 : wkPl V pl t c j = none := by simp [wkPl, c_24, show j < vN V by omega]
      have i1 := wk_upd (v := nI 3) hinv.1 (by rw [e1])
      have i2 := wk_updS (v := nI 0) hinv.2 (by rw [e2]; rfl)
      refine am_q_aload_n rfl rfl ?_
      refine am_q_gr rfl rfl rfl ?_
      refine am_q_iload_n rfl rfl ?_
      refine am_q_iconst (v := nI 3) rfl rfl ?_
      refine am_q_iast rfl rfl (by first | exact am_ix_nI (by omega) (by omega) | rfl) rfl ?_
      rw [am_rw_up1_38]
      refine am_q_aload_n rfl rfl ?_
      refine am_q_gr rfl rfl rfl ?_
      refine am_q_iload_n rfl rfl ?_
      refine am_q_iconst (v := nI 0) rfl rfl ?_
      refine am_q_iast rfl rfl (by first | exact am_ix_nI (by omega) (by omega) | rfl) rfl ?_
      rw [am_rw_up]
      refine am_q_goto rfl ?_
      refine am_q_iinc [some _, some _, some _, some _] rfl (c := nI 1) rfl rfl (Nat.le_of_ble_eq_true rfl) (nI_add _ _) rfl ?_
      refine am_q_goto rfl ?_
      exact ih (j + 1) g _ _ (by omega) ⟨i1, i2⟩

/-- StoneSecrets$Wall.passWeek(I)I -/
theorem s_passWeek38 (d : Nat) (n c : Nat) {V : sVal} {st : Nat → Nat} {pl : Nat → Option Nat} {t : Nat} {μ : am_M2} (ν : am_N2) (hV : xVal μ V) (hO : vOk V) (hW : xW μ 38 st pl t) (hI : sI (vN V) (vP V) st pl) (ht : t < 2 ^ 30) : ∃ (g a b : Nat → Int32), am_run (d + 5) 85 [.ref 38, .int (nI c)] (am_hp n μ ν) = some (some (.int (nI (sBits (sFall V pl t c) (vN V)))), am_hp n (am_wl (am_rw μ 15 g) 38 a b (nI (t + 1))) ν) ∧ (∀ s, s < 6 → a s = nI (wkSt V st pl t c s)) ∧ (∀ s, s < 6 → b s = sn_spot (wkPl V pl t c s)) := by
  obtain ⟨g0, hfb⟩ := s_fallingBy38 d n c ν hV hO hW hI
  have key : ∃ r, am_run (d + 5) 85 [.ref 38, .int (nI c)] (am_hp n μ ν) = some r ∧ ∃ (g a b : Nat → Int32), r = (some (.int (nI (sBits (sFall V pl t c) (vN V)))), am_hp n (am_wl (am_rw μ 15 g) 38 a b (nI (t + 1))) ν) ∧ (∀ s, s < 6 → a s = nI (wkSt V st pl t c s)) ∧ (∀ s, s < 6 → b s = sn_spot (wkPl V pl t c s)) := am_run_wE (k := 85) (d := d + 4) rfl rfl (Nat.le_of_ble_eq_true rfl) [some (.ref 38), some (.int (nI c)), none, none] rfl (by
    refine am_q_aload_n rfl rfl ?_
    refine am_q_iload_n rfl rfl ?_
    refine am_q_call rfl rfl (hfb) rfl ?_
    refine am_q_istore_n [some _, some _, some _, none] rfl (Nat.le_of_ble_eq_true rfl) rfl ?_
    refine am_q_iconst (v := nI 0) rfl rfl ?_
    refine am_q_istore_n [some _, some _, some _, some _] rfl (Nat.le_of_ble_eq_true rfl) rfl ?_
    have e := s_pwL38 (d + 3) n c ν hV hO hW hI ht (vN V) 0 g0 (μ 39) (μ 40) (by omega) ⟨fun s hs => by rw [if_neg (by omega)]; exact hW.1 s hs, fun s hs => by rw [if_neg (by omega)]; exact hW.2.1 s hs⟩
    rw [show am_rw (am_rw (am_rw μ 15 g0) 39 (μ 39)) 40 (μ 40) = am_rw μ 15 g0 from am_rw_two μ g0 (by decide) (by decide)] at e
    exact e)
  obtain ⟨r, h1, g, a, b, h2, h3⟩ := key
  exact ⟨g, a, b, by rw [h1, h2], h3⟩
