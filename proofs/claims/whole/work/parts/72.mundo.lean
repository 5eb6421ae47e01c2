def mSeen (μ : am_M2) (b : Nat) (S : sSeen) : Prop := μ 145 (b + 13) = nI S.1 ∧ S.1 ≤ 8 ∧ ∀ i, i < S.1 → μ 145 (b + 14 + 3 * i) = nI (S.2.1 i) ∧ μ 145 (b + 14 + 3 * i + 1) = nI (S.2.2.1 i) ∧ μ 145 (b + 14 + 3 * i + 2) = sB (S.2.2.2 i)
def mUndo (μ : am_M2) (U : List sWall) : Prop := μ 133 18 = nI U.length ∧ U.length ≤ 16 ∧ ∀ j (h : j < U.length), mWall μ (38 * (5 + (U.length - 1 - j))) U[j]
def mMk (μ : am_M2) (K : Nat → Option (sWall × sSeen)) : Prop := ∀ m, m < 4 → μ 146 m = sB (K m).isSome ∧ ∀ w s, K m = some (w, s) → mWall μ (38 * (1 + m)) w ∧ mSeen μ (38 * (1 + m)) s
def mYear (μ : am_M2) (Y : sYear) : Prop := μ 142 0 = nI Y.1 ∧ Y.1 ≤ 40 ∧ ∀ i, i < Y.1 → μ 142 (1 + 3 * i) = nI (Y.2.1 i) ∧ (Y.2.1 i ≠ 0 → μ 142 (2 + 3 * i) = nI (Y.2.2.1 i)) ∧ (Y.2.1 i = 2 → μ 142 (3 + 3 * i) = nI (Y.2.2.2 i))
def mR (μ : am_M2) (V : sVal) (W : sWall) (U : List sWall) (K : Nat → Option (sWall × sSeen)) (S : sSeen) (Y : sYear) : Prop := mVal μ V ∧ mWall μ 0 W ∧ mUndo μ U ∧ mMk μ K ∧ mSeen μ 0 S ∧ mYear μ Y
theorem mSeen_c {μ μ' : am_M2} {b : Nat} {S : sSeen} (h : ∀ k, b + 13 ≤ k → k < b + 38 → μ' 145 k = μ 145 k) (hS : mSeen μ b S) : mSeen μ' b S := by
  obtain ⟨h1, h2, h3⟩ := hS
  exact ⟨by rw [h _ (by omega) (by omega)]; exact h1, h2, fun i hi => by rw [h _ (by omega) (by omega), h (b + 14 + 3 * i + 1) (by omega) (by omega), h (b + 14 + 3 * i + 2) (by omega) (by omega)]; exact h3 i hi⟩
theorem mUndo_c {μ μ' : am_M2} {U : List sWall} (h0 : μ' 133 18 = μ 133 18) (h : ∀ k, 190 ≤ k → k < 798 → μ' 145 k = μ 145 k) (hU : mUndo μ U) : mUndo μ' U := by
  obtain ⟨h1, h2, h3⟩ := hU
  exact ⟨by rw [h0]; exact h1, h2, fun j hj => mWall_c (fun k a b => h k (by omega) (by omega)) (h3 j hj)⟩
theorem mMk_c {μ μ' : am_M2} {K : Nat → Option (sWall × sSeen)} (h0 : ∀ m, m < 4 → μ' 146 m = μ 146 m) (h : ∀ k, 38 ≤ k → k < 190 → μ' 145 k = μ 145 k) (hK : mMk μ K) : mMk μ' K := fun m hm =>
  ⟨by rw [h0 m hm]; exact (hK m hm).1, fun w s e => ⟨mWall_c (fun k a b => h k (by omega) (by omega)) ((hK m hm).2 w s e).1, mSeen_c (fun k a b => h k (by omega) (by omega)) ((hK m hm).2 w s e).2⟩⟩
theorem mYear_c {μ μ' : am_M2} {Y : sYear} (h : ∀ k, μ' 142 k = μ 142 k) (hY : mYear μ Y) : mYear μ' Y := by
  obtain ⟨h1, h2, h3⟩ := hY
  exact ⟨by rw [h]; exact h1, h2, fun i hi => by rw [h, h, h]; exact h3 i hi⟩
theorem mR_fr {μ μ' : am_M2} {V : sVal} {W : sWall} {U : List sWall} {K : Nat → Option (sWall × sSeen)} {S : sSeen} {Y : sYear} (h : fr μ μ') (hR : mR μ V W U K S Y) : mR μ' V W U K S Y := by
  obtain ⟨hV, hW, hU, hK, hS, hY⟩ := hR
  exact ⟨mVal_fr h hV, mWall_fr h (by decide) hW, mUndo_c (h _ _ (by omega)) (fun k a b => h _ _ (by omega)) hU, mMk_c (fun m hm => h _ _ (by omega)) (fun k a b => h _ _ (by omega)) hK, mSeen_c (fun k a b => h _ _ (by omega)) hS, mYear_c (fun k => h _ _ (by omega)) hY⟩
/-- only what is kept to be undone -/
def frU (μ μ' : am_M2) : Prop := ∀ i k, ¬ (i = 145 ∧ 190 ≤ k ∧ k < 798) → ¬ (i = 133 ∧ k = 18) → μ' i k = μ i k
def frV (μ μ' : am_M2) : Prop := ∀ i k, ¬ (i = 145 ∧ 190 ≤ k ∧ k < 798) → μ' i k = μ i k
theorem frV_tr {μ μ' μ'' : am_M2} (h : frV μ μ') (h' : frV μ' μ'') : frV μ μ'' := fun i k a => (h' i k a).trans (h i k a)
theorem frU_rf (μ : am_M2) : frU μ μ := fun _ _ _ _ => rfl
theorem frU_tr {μ μ' μ'' : am_M2} (h : frU μ μ') (h' : frU μ' μ'') : frU μ μ'' := fun i k a b => (h' i k a b).trans (h i k a b)
/-- nothing of the class's -/
def frM (μ μ' : am_M2) : Prop := ∀ i, i < 133 → μ' i = μ i
theorem frM_fr' {μ μ' : am_M2} (h : ∀ i k, i < 133 → μ' i k = μ i k) : frM μ μ' := fun i hi => by funext k; exact h i k hi
theorem frM_tr {μ μ' μ'' : am_M2} (h : frM μ μ') (h' : frM μ' μ'') : frM μ μ'' := fun i hi => (h' i hi).trans (h i hi)
theorem frM_U {μ μ' : am_M2} (h : frU μ μ') : frM μ μ' := frM_fr' fun i k hi => h i k (by omega) (by omega)
theorem frM_B {b : Nat} {μ μ' : am_M2} (h : frB b μ μ') : frM μ μ' := frM_fr' fun i k hi => h i k (by omega) (by omega) (by omega)
theorem frM_up {i k : Nat} {μ : am_M2} {v : Int32} (h : 133 ≤ i) : frM μ (am_up μ i k v) := frM_fr' fun i' k' hi => by unfold am_up; rw [if_neg (by omega)]
theorem frM_rw {i : Nat} {μ : am_M2} {g : Nat → Int32} (h : 133 ≤ i) : frM μ (am_rw μ i g) := frM_fr' fun i' k' hi => by unfold am_rw; rw [if_neg (by omega)]
theorem mR_U {μ μ' : am_M2} {V : sVal} {W : sWall} {K : Nat → Option (sWall × sSeen)} {S : sSeen} {Y : sYear} (h : frU μ μ') (hV : mVal μ V) (hW : mWall μ 0 W) (hK : mMk μ K) (hS : mSeen μ 0 S) (hY : mYear μ Y) : mVal μ' V ∧ mWall μ' 0 W ∧ mMk μ' K ∧ mSeen μ' 0 S ∧ mYear μ' Y :=
  ⟨mVal_c (fun i hi => by funext k; exact h i k (by omega) (by omega)) hV, mWall_c (fun k a b => h _ _ (by omega) (by omega)) hW, mMk_c (fun m hm => h _ _ (by omega) (by omega)) (fun k a b => h _ _ (by omega) (by omega)) hK, mSeen_c (fun k a b => h _ _ (by omega) (by omega)) hS, mYear_c (fun k => h _ _ (by omega) (by omega)) hY⟩
theorem mR_B0 {μ μ' : am_M2} {V : sVal} {W' : sWall} {U : List sWall} {K : Nat → Option (sWall × sSeen)} {S : sSeen} {Y : sYear} (h : frB 0 μ μ') (hV : mVal μ V) (hW : mWall μ' 0 W') (hU : mUndo μ U) (hK : mMk μ K) (hS : mSeen μ 0 S) (hY : mYear μ Y) : mR μ' V W' U K S Y :=
  ⟨mVal_B h hV, hW, mUndo_c (h _ _ (by omega) (by omega) (by omega)) (fun k a b => h _ _ (by omega) (by omega) (by omega)) hU, mMk_c (fun m hm => h _ _ (by omega) (by omega) (by omega)) (fun k a b => h _ _ (by omega) (by omega) (by omega)) hK, mSeen_c (fun k a b => h _ _ (by omega) (by omega) (by omega)) hS, mYear_c (fun k => h _ _ (by omega) (by omega) (by omega)) hY⟩
theorem m_keepS (d n L : Nat) (μ : am_M2) (ν : am_N2) (hL : L ≤ 15) (h18 : μ 133 18 = nI L) (o1 : Option Value) (Q : am_R → Prop) (hQ : Q (none, am_hp n (am_up (am_rw μ 145 (mcp (μ 145) 0 (38 * (5 + L)) 13)) 133 18 (nI (L + 1))) ν)) : am_w (d + 1) (Option.none : Option FieldType) am_g227 53 [some (.ref 133), o1] [] (am_hp n μ ν) (Q) := by
  refine am_q_aload_n rfl rfl ?_
  refine am_q_iconst (v := nI 0) rfl rfl ?_
  refine am_q_bipush (v := nI 38) rfl rfl ?_
  refine am_q_iconst (v := nI 5) rfl rfl ?_
  refine am_q_aload_n rfl rfl ?_
  refine am_q_gi rfl rfl rfl h18 ?_
  refine am_q_iadd rfl (nI_add _ _) ?_
  refine am_q_imul rfl (pk_mul _ _) ?_
  refine am_q_bipush (v := nI 13) rfl rfl ?_
  refine am_q_call rfl rfl (m_copies _ n 0 (38 * (5 + L)) 13 _ _ (by decide) (by omega) (by omega)) rfl ?_
  refine am_q_aload_n rfl rfl ?_
  refine am_q_dupr rfl ?_
  refine am_q_gi rfl rfl rfl (show am_rw μ 145 _ 133 18 = nI L from h18) ?_
  refine am_q_iconst (v := nI 1) rfl rfl ?_
  refine am_q_iadd rfl (nI_add _ _) ?_
  refine am_q_pi rfl rfl rfl (Or.inl rfl) ?_
  refine am_q_return rfl rfl ?_
  exact hQ

theorem mUndo_push {μ : am_M2} {U : List sWall} {W : sWall} {L : Nat} (hl : U.length = L) (hL : L ≤ 15) (hU : ∀ j (h : j < U.length), mWall μ (38 * (5 + (L - 1 - j))) U[j]) (hW : mWall μ 0 W) : mUndo (am_up (am_rw μ 145 (mcp (μ 145) 0 (38 * (5 + L)) 13)) 133 18 (nI (L + 1))) (W :: U) ∧ frU μ (am_up (am_rw μ 145 (mcp (μ 145) 0 (38 * (5 + L)) 13)) 133 18 (nI (L + 1))) := by
  have hfr : ∀ i k, (i = 145 → k < 38 * (5 + L) ∨ 38 * (5 + L) + 13 ≤ k) → ¬ (i = 133 ∧ k = 18) → (am_up (am_rw μ 145 (mcp (μ 145) 0 (38 * (5 + L)) 13)) 133 18 (nI (L + 1))) i k = μ i k := fun i k a b => by
    rw [am_up_ne (by omega), mcp_row a]
  refine ⟨⟨?_, ?_, fun j hj => ?_⟩, fun i k a b => hfr i k (by omega) b⟩
  · rw [am_up_eq, List.length_cons, hl]
  · rw [List.length_cons]; omega
  · rw [List.length_cons, hl]
    cases j with
    | zero =>
      show mWall _ (38 * (5 + (L + 1 - 1 - 0))) W
      rw [show L + 1 - 1 - 0 = L by omega]
      exact mWall_c (fun k a b => am_up_ne (Or.inl (by omega))) (mWall_mcp (t := 38 * (5 + L)) (m := 13) (by decide) hW)
    | succ j =>
      rw [List.length_cons] at hj
      show mWall _ (38 * (5 + (L + 1 - 1 - (j + 1)))) U[j]
      rw [show L + 1 - 1 - (j + 1) = L - 1 - j by omega]
      exact mWall_c (fun k a b => hfr 145 k (by omega) (by omega)) (hU j (by omega))
theorem shift_s {μ1 : am_M2} {old : Nat → sWall} {j : Nat} (hj1 : 1 ≤ j) (hj : j < 16) (h : (∀ q, q < 16 → mWall μ1 (38 * (5 + q)) (if q + 1 < j then old (q + 1) else old q))) : ∀ q, q < 16 → mWall (am_rw μ1 145 (mcp (μ1 145) (38 * (5 + j)) (38 * (5 + j - 1)) 13)) (38 * (5 + q)) (if q + 1 < j + 1 then old (q + 1) else old q) := fun q hq => by
  by_cases e : q + 1 = j
  · rw [if_pos (by omega), show 5 + q = 5 + j - 1 by omega, e]
    have := h j hj
    rw [if_neg (by omega)] at this
    exact mWall_mcp (by decide) this
  · have := h q hq
    have e2 : (if q + 1 < j + 1 then old (q + 1) else old q) = (if q + 1 < j then old (q + 1) else old q) := by
      by_cases z : q + 1 < j
      · rw [if_pos (by omega), if_pos z]
      · rw [if_neg (by omega), if_neg z]
    rw [e2]
    exact mWall_c (fun k a b => mcp_row (fun _ => by omega)) this
theorem m_keepL (d n : Nat) {old : Nat → sWall} {μ : am_M2} (ν : am_N2) (Q : am_R → Prop) (K : ∀ μ1 o1, frV μ μ1 → (∀ q, q < 16 → mWall μ1 (38 * (5 + q)) (if q + 1 < 16 then old (q + 1) else old q)) → am_w (d + 1) (Option.none : Option FieldType) am_g227 43 [some (.ref 133), o1] [] (am_hp n μ1 ν) Q) : ∀ (m j : Nat) (μ1 : am_M2), j + m = 16 → 1 ≤ j ∧ frV μ μ1 ∧ (∀ q, q < 16 → mWall μ1 (38 * (5 + q)) (if q + 1 < j then old (q + 1) else old q)) → am_w (d + 1) (Option.none : Option FieldType) am_g227 11 [some (.ref 133), some (.int (nI j))] [] (am_hp n μ1 ν) (Q) := by
  intro m
  induction m with
  | zero =>
    intro j μ1 hj hinv
    refine am_q_iload_n rfl rfl ?_
    refine am_q_bipush (v := nI 16) rfl rfl ?_
    refine am_q_igeN rfl (by omega) (by omega) (fun c_14 => ?_) (fun c_14 => absurd c_14 (by omega))
    have hj2 : j = 16 := by omega
    rw [hj2] at hinv ⊢
    exact K _ _ hinv.2.1 hinv.2.2
  | succ m ih =>
    intro j μ1 hj hinv
    have h1j := hinv.1
    refine am_q_iload_n rfl rfl ?_
    refine am_q_bipush (v := nI 16) rfl rfl ?_
    refine am_q_igeN rfl (by omega) (by omega) (fun c_14 => absurd c_14 (by omega)) (fun c_14 => ?_)
    refine am_q_aload_n rfl rfl ?_
    refine am_q_bipush (v := nI 38) rfl rfl ?_
    refine am_q_iconst (v := nI 5) rfl rfl ?_
    refine am_q_iload_n rfl rfl ?_
    refine am_q_iadd rfl (nI_add _ _) ?_
    refine am_q_imul rfl (pk_mul _ _) ?_
    refine am_q_bipush (v := nI 38) rfl rfl ?_
    refine am_q_iconst (v := nI 5) rfl rfl ?_
    refine am_q_iload_n rfl rfl ?_
    refine am_q_iadd rfl (nI_add _ _) ?_
    refine am_q_iconst (v := nI 1) rfl rfl ?_
    refine am_q_isub rfl (show nI (5 + j) - nI 1 = nI (5 + j - 1) from pk_sub (by omega)) ?_
    refine am_q_imul rfl (pk_mul _ _) ?_
    refine am_q_bipush (v := nI 13) rfl rfl ?_
    refine am_q_call rfl rfl (m_copies _ n (38 * (5 + j)) (38 * (5 + j - 1)) 13 _ _ (by omega) (by omega) (by omega)) rfl ?_
    refine am_q_iinc [some _, some _] rfl (c := nI 1) rfl rfl (Nat.le_of_ble_eq_true rfl) (nI_add _ _) rfl ?_
    refine am_q_goto rfl ?_
    exact ih (j + 1) _ (by omega) ⟨by omega, frV_tr hinv.2.1 (fun i k a => mcp_row (fun e => by omega)), shift_s hinv.1 (by omega) hinv.2.2⟩

theorem m_keep0 (d : Nat) (n : Nat) {μ : am_M2} (ν : am_N2) {U : List sWall} {W : sWall} (hU : mUndo μ U) (hW : mWall μ 0 W) (hl : U.length ≤ 15) : ∃ (μ' : am_M2), am_run (d + 2) 227 [.ref 133] (am_hp n μ ν) = some (none, am_hp n μ' ν) ∧ mUndo μ' (W :: U) ∧ frU μ μ' := by
  have key : ∃ r, am_run (d + 2) 227 [.ref 133] (am_hp n μ ν) = some r ∧ ∃ (μ' : am_M2), r = (none, am_hp n μ' ν) ∧ mUndo μ' (W :: U) ∧ frU μ μ' := am_run_wE (k := 227) (d := d + 1) rfl rfl (Nat.le_of_ble_eq_true rfl) [some (.ref 133), none] rfl (by
    refine am_q_aload_n rfl rfl ?_
    refine am_q_gi rfl rfl rfl hU.1 ?_
    refine am_q_bipush (v := nI 16) rfl rfl ?_
    refine am_q_ineN rfl (by omega) (by omega) (fun c_6 => ?_) (fun c_6 => absurd c_6 (by omega))
    exact m_keepS d n U.length μ ν hl hU.1 none _ ⟨_, rfl, mUndo_push rfl hl hU.2.2 hW⟩)
  obtain ⟨r, h1, μ', h2, h3⟩ := key
  exact ⟨μ', by rw [h1, h2], h3⟩

theorem m_keepD (d n : Nat) (μ : am_M2) (ν : am_N2) (h18 : μ 133 18 = nI 16) (o1 : Option Value) (Q : am_R → Prop) (K : am_w (d + 1) (Option.none : Option FieldType) am_g227 53 [some (.ref 133), o1] [] (am_hp n (am_up μ 133 18 (nI 15)) ν) Q) : am_w (d + 1) (Option.none : Option FieldType) am_g227 43 [some (.ref 133), o1] [] (am_hp n μ ν) (Q) := by
  refine am_q_aload_n rfl rfl ?_
  refine am_q_dupr rfl ?_
  refine am_q_gi rfl rfl rfl h18 ?_
  refine am_q_iconst (v := nI 1) rfl rfl ?_
  refine am_q_isub rfl (show nI 16 - nI 1 = nI 15 from by decide) ?_
  refine am_q_pi rfl rfl rfl (Or.inl rfl) ?_
  exact K

theorem m_keep1 (d : Nat) (n : Nat) {μ : am_M2} (ν : am_N2) {U : List sWall} {W : sWall} (hU : mUndo μ U) (hW : mWall μ 0 W) (hl : U.length = 16) : ∃ (μ' : am_M2), am_run (d + 2) 227 [.ref 133] (am_hp n μ ν) = some (none, am_hp n μ' ν) ∧ mUndo μ' (W :: U.take 15) ∧ frU μ μ' := by
  have h18 := hU.1
  rw [hl] at h18
  have key : ∃ r, am_run (d + 2) 227 [.ref 133] (am_hp n μ ν) = some r ∧ ∃ (μ' : am_M2), r = (none, am_hp n μ' ν) ∧ mUndo μ' (W :: U.take 15) ∧ frU μ μ' := am_run_wE (k := 227) (d := d + 1) rfl rfl (Nat.le_of_ble_eq_true rfl) [some (.ref 133), none] rfl (by
    refine am_q_aload_n rfl rfl ?_
    refine am_q_gi rfl rfl rfl h18 ?_
    refine am_q_bipush (v := nI 16) rfl rfl ?_
    refine am_q_ineN rfl (by omega) (by omega) (fun c_6 => absurd c_6 (by omega)) (fun c_6 => ?_)
    refine am_q_iconst (v := nI 1) rfl rfl ?_
    refine am_q_istore_n [some _, some _] rfl (Nat.le_of_ble_eq_true rfl) rfl ?_
    refine m_keepL d n (old := fun q => U[15 - q]?.getD W) ν _ (fun μ1 o1 hf hs => ?_) 15 1 μ (by omega) ⟨by omega, fun _ _ _ => rfl, fun q hq => ?_⟩
    · refine m_keepD d n μ1 ν ((hf 133 18 (by omega)).trans h18) o1 _ ?_
      refine m_keepS d n 15 (am_up μ1 133 18 (nI 15)) ν (by decide) am_up_eq o1 _ ?_
      have hp := mUndo_push (μ := am_up μ1 133 18 (nI 15)) (U := U.take 15) (W := W) (L := 15) (by rw [List.length_take]; omega) (by decide) (fun j hj => ?_) ?_
      · exact ⟨_, rfl, hp.1, fun i k a b => (hp.2 i k a b).trans ((am_up_ne (by omega)).trans (hf i k a))⟩
      · rw [List.length_take] at hj
        have h1 := hs (14 - j) (by omega)
        rw [if_pos (by omega), List.getElem?_eq_getElem (by omega)] at h1
        rw [show 5 + (15 - 1 - j) = 5 + (14 - j) by omega, List.getElem_take]
        refine mWall_c (fun k a b => am_up_ne (Or.inl (by omega))) ?_
        have e : 15 - (14 - j + 1) = j := by omega
        simp only [e, Option.getD_some] at h1
        exact h1
      · exact mWall_c (fun k a b => (am_up_ne (Or.inl (by omega))).trans (hf 145 k (by omega))) hW
    · rw [if_neg (by omega)]
      have := hU.2.2 (15 - q) (by omega)
      simp only [hl, show 16 - 1 - (15 - q) = q by omega] at this
      rw [List.getElem?_eq_getElem (by omega)]
      exact this)
  obtain ⟨r, h1, μ', h2, h3⟩ := key
  exact ⟨μ', by rw [h1, h2], h3⟩

theorem m_keeps (d n : Nat) {μ : am_M2} (ν : am_N2) {U : List sWall} {W : sWall} (hU : mUndo μ U) (hW : mWall μ 0 W) : ∃ μ', am_run (d + 2) 227 [.ref 133] (am_hp n μ ν) = some (none, am_hp n μ' ν) ∧ mUndo μ' ((W :: U).take 16) ∧ frU μ μ' := by
  have hl := hU.2.1
  rcases Nat.lt_or_ge U.length 16 with z | z
  · have := m_keep0 d n ν hU hW (by omega)
    rw [List.take_of_length_le (by rw [List.length_cons]; omega)]
    exact this
  · have := m_keep1 d n ν hU hW (by omega)
    exact this