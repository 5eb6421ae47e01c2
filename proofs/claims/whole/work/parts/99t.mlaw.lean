/-! ===== the model's parser: the law ===== -/
def mSt (μ : am_M2) (p : List Int) : Prop := μ 133 12 = nI p.length ∧ ∀ j (h : j < p.length), μ 140 (1100 + j) = nI (mEnc p[j])
def frMl (μ μ' : am_M2) : Prop := ∀ a k, ¬ (a = 133 ∧ (k = 7 ∨ k = 8 ∨ k = 12)) → ¬ (a = 140 ∧ 1100 ≤ k) → μ' a k = μ a k
theorem frMl_rf (μ : am_M2) : frMl μ μ := fun _ _ _ _ => rfl
theorem frMl_tr {μ μ' μ'' : am_M2} (h : frMl μ μ') (h' : frMl μ' μ'') : frMl μ μ'' := fun a k x y => (h' a k x y).trans (h a k x y)
theorem frMl_up {μ : am_M2} {k : Nat} {v : Int32} (h : k = 7 ∨ k = 8 ∨ k = 12) : frMl μ (am_up μ 133 k v) := fun a b x y => am_up_ne (by omega)
theorem frMl_em {μ : am_M2} {L : Nat} {v w : Int32} : frMl μ (am_up (am_up μ 140 (1100 + L) v) 133 12 w) := fun a b x y => by rw [am_up_ne (by omega), am_up_ne (by omega)]
def mlQ (X : tTp) (n : Nat) (μ : am_M2) (ν : am_N2) (i : Nat) (p : List Int) (r : Nat ⊕ pSt) (y : am_R) : Prop := match r with
  | .inl c => ∃ μ' i' L, y = (none, am_hp n μ' ν) ∧ μ' 133 8 = nI c ∧ 0 < c ∧ c < 2 ^ 20 ∧ μ' 133 7 = nI i' ∧ i' ≤ tN X ∧ μ' 133 12 = nI L ∧ L + i ≤ p.length + i' ∧ frMl μ μ'
  | .inr q => ∃ μ', y = (none, am_hp n μ' ν) ∧ mP μ' ν X q.1 ∧ mSt μ' q.2 ∧ frMl μ μ'
theorem mlQ_tr {X : tTp} {n : Nat} {μ μ1 : am_M2} {ν : am_N2} {i i1 : Nat} {p p1 : List Int} {r : Nat ⊕ pSt} {y : am_R} (h : frMl μ μ1) (hl : p1.length + i ≤ p.length + i1) (hq : mlQ X n μ1 ν i1 p1 r y) : mlQ X n μ ν i p r y := by
  unfold mlQ at hq ⊢
  cases r with
  | inl c => obtain ⟨μ', i', L, a, b, c, e, f, g, g2, g3, g4⟩ := hq; exact ⟨μ', i', L, a, b, c, e, f, g, g2, by omega, frMl_tr h g4⟩
  | inr q => obtain ⟨μ', a, b, c, e⟩ := hq; exact ⟨μ', a, b, c, frMl_tr h e⟩
def mlC (X : tTp) (n D : Nat) (P : Nat → List Int → Nat ⊕ pSt) (k : Nat) (as : List Value) : Prop := ∀ i p μ ν, mP μ ν X i → mSt μ p → p.length ≤ i → ∃ y, am_run D k (.ref 133 :: as) (am_hp n μ ν) = some y ∧ mlQ X n μ ν i p (P i p) y
theorem mSt_7 {μ : am_M2} {p : List Int} {k : Nat} {v : Int32} (hk : k ≠ 12) (h : mSt μ p) : mSt (am_up μ 133 k v) p := ⟨(am_up_ne (by omega)).trans h.1, fun j hj => (am_up_ne (by omega)).trans (h.2 j hj)⟩
theorem mSt_e {μ : am_M2} {p : List Int} {x : Int} {e : Nat} (he : e = mEnc x) (h : mSt μ p) : mSt (am_up (am_up μ 140 (1100 + p.length) (nI e)) 133 12 (nI (p.length + 1))) (p ++ [x]) := by
  refine ⟨by rw [am_up_eq, List.length_append]; rfl, fun j hj => ?_⟩
  rw [am_up_ne (by omega)]
  rw [List.length_append] at hj
  have hj' : j < p.length + 1 := hj
  by_cases z : j = p.length
  · subst z; rw [am_up_eq, he]; simp
  · rw [am_up_ne (by omega), h.2 j (by omega), List.getElem_append_left (by omega)]
theorem mP_e {μ : am_M2} {ν : am_N2} {X : tTp} {i a : Nat} {v w : Int32} (h : mP μ ν X i) : mP (am_up (am_up μ 140 a v) 133 12 w) ν X i :=
  mP_c h (fun k => ⟨by rw [am_up_ne (by omega), am_up_ne (by omega)], by rw [am_up_ne (by omega), am_up_ne (by omega)]⟩) (by rw [am_up_ne (by omega), am_up_ne (by omega)]) (by rw [am_up_ne (by omega), am_up_ne (by omega)]) (fun k => ⟨rfl, rfl⟩)
theorem jt3 {X : tTp} {i : Nat} : jnt X 3 i = if isSg X i 42 = true then some (-12) else none := by
  unfold jnt
  by_cases h : isSg X i 42 = true
  · rw [if_pos h, (tkc_s (c := 42) (by decide)).mpr h]; rfl
  · rw [if_neg h, if_neg]
    intro z
    have : tkc X i = 42 := by
      unfold lvO at z
      repeat' split at z
      all_goals first | assumption | (simp at z)
    exact h ((tkc_s (by decide)).mp this)
theorem jt2 {X : tTp} {i : Nat} : jnt X 2 i = if isSg X i 43 = true then some (-10) else if isSg X i 45 = true then some (-11) else none := by
  unfold jnt
  by_cases h : isSg X i 43 = true
  · rw [if_pos h, (tkc_s (c := 43) (by decide)).mpr h]; rfl
  · rw [if_neg h]
    by_cases h' : isSg X i 45 = true
    · rw [if_pos h', (tkc_s (c := 45) (by decide)).mpr h']; rfl
    · rw [if_neg h', if_neg]
      intro z
      have : tkc X i = 43 ∨ tkc X i = 45 := by
        unfold lvO at z
        repeat' split at z
        all_goals first | assumption | (simp at z)
      exact this.elim (fun q => h ((tkc_s (by decide)).mp q)) (fun q => h' ((tkc_s (by decide)).mp q))
theorem jt1 {X : tTp} {i : Nat} : jnt X 1 i = if isSg X i 60 = true then some (-8) else if isSg X i 61 = true then some (-9) else none := by
  unfold jnt
  by_cases h : isSg X i 60 = true
  · rw [if_pos h, (tkc_s (c := 60) (by decide)).mpr h]; rfl
  · rw [if_neg h]
    by_cases h' : isSg X i 61 = true
    · rw [if_pos h', (tkc_s (c := 61) (by decide)).mpr h']; rfl
    · rw [if_neg h', if_neg]
      intro z
      have : tkc X i = 60 ∨ tkc X i = 61 := by
        unfold lvO at z
        repeat' split at z
        all_goals first | assumption | (simp at z)
      exact this.elim (fun q => h ((tkc_s (by decide)).mp q)) (fun q => h' ((tkc_s (by decide)).mp q))
theorem jt0 {X : tTp} {i : Nat} : jnt X 0 i = if isWd X i 16 = true then some (-6) else if isWd X i 17 = true then some (-7) else none := by
  unfold jnt
  by_cases h : isWd X i 16 = true
  · rw [if_pos h, (tkc_w (r := 16) (by decide)).mpr h]; rfl
  · rw [if_neg h]
    by_cases h' : isWd X i 17 = true
    · rw [if_pos h', (tkc_w (r := 17) (by decide)).mpr h']; rfl
    · rw [if_neg h', if_neg]
      intro z
      have : tkc X i = 144 ∨ tkc X i = 145 := by
        unfold lvO at z
        repeat' split at z
        all_goals first | assumption | (simp at z)
      exact this.elim (fun q => h ((tkc_w (r := 16) (by decide)).mp q)) (fun q => h' ((tkc_w (r := 17) (by decide)).mp q))
/-- StoneSecretsModel.emit(II)V -/
theorem m_emit (d : Nat) (n e a L : Nat) {μ : am_M2} (ν : am_N2) (hL : μ 133 12 = nI L) (hL2 : L < 1100) : am_run (d + 1) 211 [.ref 133, .int (nI e), .int (nI a)] (am_hp n μ ν) = some (none, am_hp n (am_up (am_up μ 140 (1100 + L) (nI (e + 16 * a))) 133 12 (nI (L + 1))) ν) := by
  refine am_r211 (d := d + 0) (Nat.le_of_ble_eq_true rfl) [some (.ref 133), some (.int (nI e)), some (.int (nI a))] rfl ?_
  refine am_q_aload_n rfl rfl ?_
  refine am_q_gr rfl rfl rfl ?_
  refine am_q_sipush (v := nI 1100) rfl rfl ?_
  refine am_q_aload_n rfl rfl ?_
  refine am_q_gi rfl rfl rfl hL ?_
  refine am_q_iadd rfl (nI_add _ _) ?_
  refine am_q_iload_n rfl rfl ?_
  refine am_q_bipush (v := nI 16) rfl rfl ?_
  refine am_q_iload_n rfl rfl ?_
  refine am_q_imul rfl (pk_mul _ _) ?_
  refine am_q_iadd rfl (nI_add _ _) ?_
  refine am_q_iast rfl rfl (am_ix_nI (show 1100 + L < 2200 by omega) (by decide)) rfl ?_
  refine am_q_aload_n rfl rfl ?_
  refine am_q_dupr rfl ?_
  refine am_q_gi rfl rfl rfl ((am_up_ne (by omega)).trans hL) ?_
  refine am_q_iconst (v := nI 1) rfl rfl ?_
  refine am_q_iadd rfl (nI_add _ _) ?_
  refine am_q_pi rfl rfl rfl (Or.inl rfl) ?_
  refine am_q_return rfl rfl ?_
  rfl

theorem m_prF (d dp i : Nat) (n c : Nat) {μ : am_M2} (ν : am_N2) (hc : 0 < c) (hc2 : c < 2 ^ 30) (hF : μ 133 8 = nI c) (hA : μ 133 7 = nI i) (Q : am_R → Prop) (K : Q (none, am_hp n μ ν)) : am_w (d + 3) (Option.none : Option FieldType) am_g208 5 [some (.ref 133), some (.int (nI dp))] [] (am_hp n μ ν) (Q) := by
  refine am_q_aload_n rfl rfl ?_
  refine am_q_bipush (v := nI 42) rfl rfl ?_
  refine am_q_call rfl rfl (m_hasSign1 _ 42 i n c ν hc hc2 hF hA) rfl ?_
  refine am_q_if_eqB rfl (fun c_11 => ?_) (fun c_11 => by simp at c_11)
  refine am_q_return rfl rfl ?_
  exact K

theorem m_prE (d n dp i : Nat) {X : tTp} {μ : am_M2} {ν : am_N2} (hX : tpOk X) (hP : mP μ ν X i) (hs : ¬ isSg X i 42 = true) (Q : am_R → Prop) (K : Q (none, am_hp n μ ν)) : am_w (d + 3) (Option.none : Option FieldType) am_g208 5 [some (.ref 133), some (.int (nI dp))] [] (am_hp n μ ν) (Q) := by
  refine am_q_aload_n rfl rfl ?_
  refine am_q_bipush (v := nI 42) rfl rfl ?_
  refine am_q_call rfl rfl (m_hasSign0 _ 42 (by decide) n i ν hX hP) rfl ?_
  refine am_q_if_eqB rfl (fun c_11 => ?_) (fun c_11 => absurd c_11 hs)
  refine am_q_return rfl rfl ?_
  rw [if_neg hs, am_up_same (v := nI (i + 0)) hP.2.2.1]
  exact K

theorem m_prL (d n dp : Nat) {X : tTp} (hX : tpOk X) (P : Nat → List Int → Nat ⊕ pSt) (hG : pGd X P) (hC : mlC X n (d + 3) P 209 [.int (nI dp)]) : ∀ (m i : Nat) (p : List Int) (μ : am_M2) (ν : am_N2), mP μ ν X i → mSt μ p → p.length ≤ i → tN X ≤ i + m → am_w (d + 3) (Option.none : Option FieldType) am_g208 5 [some (.ref 133), some (.int (nI dp))] [] (am_hp n μ ν) (mlQ X n μ ν i p (levL P (jnt X 3) m i p)) := by
  intro m
  induction m with
  | zero =>
    intro i p μ ν hP hS hl hm
    have hi := hP.2.2.2.2
    have hs : ¬ isSg X i 42 = true := fun z => sg_k z (by rw [show i = tN X by omega]; exact tN_0 X)
    exact m_prE d n dp i hX hP hs _ ⟨μ, rfl, hP, hS, frMl_rf μ⟩
  | succ m ih =>
    intro i p μ ν hP hS hl hm
    have hN := tN_1k hX
    unfold levL
    rw [jt3]
    by_cases hs : isSg X i 42 = true
    · rw [if_pos hs]
      have hi1 := tN_s hP.2.2.2.2 (sg_k hs)
      have hP1 := mP_at hP hi1
      have hS1 : mSt (am_up μ 133 7 (nI (i + 1))) p := mSt_7 (by decide) hS
      obtain ⟨y, hy, hq⟩ := hC (i + 1) p _ ν hP1 hS1 (by omega)
      refine am_q_aload_n rfl rfl ?_
      refine am_q_bipush (v := nI 42) rfl rfl ?_
      refine am_q_call rfl rfl (m_hasSign0 _ 42 (by decide) n i ν hX hP) rfl ?_
      refine am_q_if_eqB rfl (fun c => by rw [hs] at c; cases c) (fun _ => ?_)
      rw [if_pos hs]
      refine am_q_aload_n rfl rfl ?_
      refine am_q_iload_n rfl rfl ?_
      cases hr : P (i + 1) p with
      | inl c =>
        rw [hr] at hq
        obtain ⟨μ2, i2, L2, rfl, b1, b2, b3, b4, b5, b6, b7, b8⟩ := hq
        refine am_q_call rfl rfl hy rfl ?_
        refine am_q_aload_n rfl rfl ?_
        refine am_q_bipush (v := nI 6) rfl rfl ?_
        refine am_q_iconst (v := nI 0) rfl rfl ?_
        refine am_q_call rfl rfl (m_emit _ n 6 0 L2 ν b6 (by omega)) rfl ?_
        refine am_q_goto rfl ?_
        refine m_prF d dp i2 n c ν b2 (by omega) ((am_up_ne (by omega)).trans ((am_up_ne (by omega)).trans b1)) ((am_up_ne (by omega)).trans ((am_up_ne (by omega)).trans b4)) _ ?_
        exact ⟨_, i2, L2 + 1, rfl, (am_up_ne (by omega)).trans ((am_up_ne (by omega)).trans b1), b2, b3, (am_up_ne (by omega)).trans ((am_up_ne (by omega)).trans b4), b5, am_up_eq, by omega, frMl_tr (frMl_tr (frMl_up (by omega)) b8) frMl_em⟩
      | inr q =>
        rw [hr] at hq
        obtain ⟨μ2, rfl, b1, b2, b3⟩ := hq
        obtain ⟨g1, g2, g3⟩ := hG (i + 1) p q hi1 hr
        refine am_q_call rfl rfl hy rfl ?_
        refine am_q_aload_n rfl rfl ?_
        refine am_q_bipush (v := nI 6) rfl rfl ?_
        refine am_q_iconst (v := nI 0) rfl rfl ?_
        refine am_q_call rfl rfl (m_emit _ n 6 0 q.2.length ν b2.1 (by omega)) rfl ?_
        refine am_q_goto rfl ?_
        have hl2 : (q.2 ++ [(-12 : Int)]).length = q.2.length + 1 := by rw [List.length_append]; rfl
        exact am_w_mono (fun r hr => mlQ_tr (frMl_tr (frMl_tr (frMl_up (by omega)) b3) frMl_em) (by omega) hr) (ih q.1 (q.2 ++ [-12]) _ ν (mP_e b1) (mSt_e rfl b2) (by omega) (by omega))
    · rw [if_neg hs]
      exact m_prE d n dp i hX hP hs _ ⟨μ, rfl, hP, hS, frMl_rf μ⟩