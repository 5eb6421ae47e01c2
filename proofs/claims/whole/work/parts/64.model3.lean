theorem mVal_c {μ μ' : am_M2} {V : sVal} (h : ∀ i, i = 139 ∨ i = 140 → μ' i = μ i) (hV : mVal μ V) : mVal μ' V := by
  unfold mVal mLaw at hV ⊢
  rw [h 139 (Or.inl rfl), h 140 (Or.inr rfl)]
  exact hV
theorem mWall_c {μ μ' : am_M2} {b : Nat} {W : sWall} (h : ∀ k, b ≤ k → k < b + 13 → μ' 145 k = μ 145 k) (hW : mWall μ b W) : mWall μ' b W :=
  ⟨by rw [h b (by omega) (by omega)]; exact hW.1, fun s hs => by rw [h (b + 1 + s) (by omega) (by omega), h (b + 7 + s) (by omega) (by omega)]; exact hW.2 s hs⟩
def frD (μ μ' : am_M2) : Prop := ∀ i, i ≠ 143 → i ≠ 144 → μ' i = μ i
theorem frD_rf (μ : am_M2) : frD μ μ := fun _ _ _ => rfl
theorem frD_tr {μ μ' μ'' : am_M2} (h : frD μ μ') (h' : frD μ' μ'') : frD μ μ'' := fun i q r => (h' i q r).trans (h i q r)
theorem fr_D {μ μ' : am_M2} (h : frD μ μ') : fr μ μ' := fun i k q => by rw [h i (by omega) (by omega)]
theorem mVal_D {μ μ' : am_M2} {V : sVal} (h : frD μ μ') (hV : mVal μ V) : mVal μ' V := mVal_c (fun i hi => h i (by omega) (by omega)) hV
theorem mWall_D {μ μ' : am_M2} {b : Nat} {W : sWall} (h : frD μ μ') (hW : mWall μ b W) : mWall μ' b W := mWall_c (fun k _ _ => by rw [h 145 (by omega) (by omega)]) hW
/-- only one wall, and what is worked with -/
def frB (b : Nat) (μ μ' : am_M2) : Prop := ∀ i k, i ≠ 143 → i ≠ 144 → (i = 145 → k < b ∨ b + 13 ≤ k) → μ' i k = μ i k
theorem frB_rf (b : Nat) (μ : am_M2) : frB b μ μ := fun _ _ _ _ _ => rfl
theorem frB_tr {b : Nat} {μ μ' μ'' : am_M2} (h : frB b μ μ') (h' : frB b μ' μ'') : frB b μ μ'' := fun i k q r z => (h' i k q r z).trans (h i k q r z)
theorem frB_D {b : Nat} {μ μ' : am_M2} (h : frD μ μ') : frB b μ μ' := fun i k q r _ => by rw [h i q r]
theorem frB_up {b k : Nat} {μ : am_M2} {v : Int32} (h1 : b ≤ k) (h2 : k < b + 13) : frB b μ (am_up μ 145 k v) := fun i q _ _ z => by
  unfold am_up
  by_cases e : i = 145
  · rw [if_pos e, if_neg]; have := z e; omega
  · rw [if_neg e]
theorem frB_up2 {b s : Nat} {μ : am_M2} {v u : Int32} (hs : s < 6) : frB b μ (am_up (am_up μ 145 (b + 1 + s) v) 145 (b + 7 + s) u) := frB_tr (frB_up (by omega) (by omega)) (frB_up (by omega) (by omega))
theorem fr_B {μ μ' : am_M2} (h : frB 798 μ μ') : fr μ μ' := fun i k q => h i k (by omega) (by omega) (fun e => by omega)
theorem mVal_B {b : Nat} {μ μ' : am_M2} {V : sVal} (h : frB b μ μ') (hV : mVal μ V) : mVal μ' V := mVal_c (fun i hi => by funext k; exact h i k (by omega) (by omega) (fun e => by omega)) hV
theorem mWall_B {b b' : Nat} {μ μ' : am_M2} {W : sWall} (h : frB b μ μ') (hb : b' + 13 ≤ b ∨ b + 13 ≤ b') (hW : mWall μ b' W) : mWall μ' b' W := mWall_c (fun k h1 h2 => h 145 k (by omega) (by omega) (fun _ => by omega)) hW
theorem mVal_fr {μ μ' : am_M2} {V : sVal} (h : fr μ μ') (hV : mVal μ V) : mVal μ' V := mVal_c (fun i hi => by funext k; exact h i k (by omega)) hV
theorem mWall_fr {μ μ' : am_M2} {b : Nat} {W : sWall} (h : fr μ μ') (hb : b + 13 ≤ 798) (hW : mWall μ b W) : mWall μ' b W := mWall_c (fun k h1 h2 => h 145 k (by omega)) hW
theorem mWall_set {μ : am_M2} {b s x : Nat} {W : sWall} {q : Option Nat} {u v : Int32} (hs : s < 6) (hu : u = nI x) (hv : v = sn_place q) (hW : mWall μ b W) : mWall (am_up (am_up μ 145 (b + 1 + s) u) 145 (b + 7 + s) v) b (fup W.1 s x, fup W.2.1 s q, W.2.2) := by
  refine ⟨?_, fun i hi => ⟨?_, ?_⟩⟩
  · rw [am_up_ne (Or.inr (by omega)), am_up_ne (Or.inr (by omega))]; exact hW.1
  · rw [am_up_ne (Or.inr (by omega))]
    by_cases e : i = s
    · subst e; rw [am_up_eq, hu]; show nI x = nI (fup W.1 i x i); unfold fup; rw [if_pos rfl]
    · rw [am_up_ne (Or.inr (by omega)), (hW.2 i hi).1]; show nI (W.1 i) = nI (fup W.1 s x i); unfold fup; rw [if_neg e]
  · by_cases e : i = s
    · subst e; rw [am_up_eq, hv]; show sn_place q = sn_place (fup W.2.1 i q i); unfold fup; rw [if_pos rfl]
    · rw [am_up_ne (Or.inr (by omega)), am_up_ne (Or.inr (by omega)), (hW.2 i hi).2]; show sn_place (W.2.1 i) = sn_place (fup W.2.1 s q i); unfold fup; rw [if_neg e]
theorem tb_1 (a j : Nat) : a / 2 ^ j % 2 = 1 ↔ a.testBit j = true := by rw [Nat.testBit_eq_decide_div_mod_eq]; simp
theorem tb_0 (a j : Nat) : ¬ a / 2 ^ j % 2 = 1 ↔ a.testBit j = false := by rw [Nat.testBit_eq_decide_div_mod_eq]; simp
/-- StoneSecretsModel.isNow(II)I -/
theorem m_isNowW (d : Nat) (n : Nat) {W : sWall} {μ : am_M2} (ν : am_N2) (b : Nat) (hb : b + 13 ≤ 836) (hW : mWall μ b W) (s : Nat) (hs : s < 6) : am_run (d + 1) 222 [.ref 133, .int (nI b), .int (nI s)] (am_hp n μ ν) = some (some (.int (nI (W.1 s))), am_hp n μ ν) := by
  refine am_r222 (d := d + 0) (Nat.le_of_ble_eq_true rfl) [some (.ref 133), some (.int (nI b)), some (.int (nI s))] rfl ?_
  refine am_q_aload_n rfl rfl ?_
  refine am_q_gr rfl rfl rfl ?_
  refine am_q_iload_n rfl rfl ?_
  refine am_q_iconst (v := nI 1) rfl rfl ?_
  refine am_q_iadd rfl (nI_add _ _) ?_
  refine am_q_iload_n rfl rfl ?_
  refine am_q_iadd rfl (nI_add _ _) ?_
  refine am_q_iald rfl rfl (by first | exact am_ix_nI (by omega) (by omega) | rfl) (hW.2 s hs).1 ?_
  refine am_q_ireturn rfl rfl rfl ?_
  rfl

/-- StoneSecretsModel.isLoose(II)Z -/
theorem m_isLoose (d : Nat) (n : Nat) {W : sWall} {μ : am_M2} (ν : am_N2) (b : Nat) (hb : b + 13 ≤ 836) (hW : mWall μ b W) (s : Nat) (hs : s < 6) (h4 : W.1 s ≤ 4) : am_run (d + 2) 231 [.ref 133, .int (nI b), .int (nI s)] (am_hp n μ ν) = some (some (.int (sB (decide (W.1 s = 1) || decide (W.1 s = 3)))), am_hp n μ ν) := by
  refine am_r231 (d := d + 1) (Nat.le_of_ble_eq_true rfl) [some (.ref 133), some (.int (nI b)), some (.int (nI s))] rfl ?_
  refine am_q_aload_n rfl rfl ?_
  refine am_q_iload_n rfl rfl ?_
  refine am_q_iload_n rfl rfl ?_
  refine am_q_call rfl rfl (m_isNowW _ n ν b hb hW _ (by omega)) rfl ?_
  refine am_q_iconst (v := nI 1) rfl rfl ?_
  refine am_q_ieqN rfl (by omega) (by omega) (fun c_7 => ?_) (fun c_7 => ?_)
  · refine am_q_iconst (v := nI 1) rfl rfl ?_
    refine am_q_goto rfl ?_
    refine am_q_ireturn rfl rfl rfl ?_
    first | (rw [decide_eq_true c_7]; rfl) | (rw [decide_eq_false c_7, decide_eq_true c_17]; rfl) | (rw [decide_eq_false c_7, decide_eq_false c_17]; rfl)
  · refine am_q_aload_n rfl rfl ?_
    refine am_q_iload_n rfl rfl ?_
    refine am_q_iload_n rfl rfl ?_
    refine am_q_call rfl rfl (m_isNowW _ n ν b hb hW _ (by omega)) rfl ?_
    refine am_q_iconst (v := nI 3) rfl rfl ?_
    refine am_q_ineN rfl (by omega) (by omega) (fun c_17 => ?_) (fun c_17 => ?_)
    · refine am_q_iconst (v := nI 0) rfl rfl ?_
      refine am_q_ireturn rfl rfl rfl ?_
      first | (rw [decide_eq_true c_7]; rfl) | (rw [decide_eq_false c_7, decide_eq_true c_17]; rfl) | (rw [decide_eq_false c_7, decide_eq_false c_17]; rfl)
    · refine am_q_iconst (v := nI 1) rfl rfl ?_
      refine am_q_goto rfl ?_
      refine am_q_ireturn rfl rfl rfl ?_
      first | (rw [decide_eq_true c_7]; rfl) | (rw [decide_eq_false c_7, decide_eq_true c_17]; rfl) | (rw [decide_eq_false c_7, decide_eq_false c_17]; rfl)

/-- StoneSecretsModel.stand(III)V -/
theorem m_stand (d : Nat) (n b s : Nat) (hb : b + 13 ≤ 836) (hs : s < 6) (x : Int32) (μ : am_M2) (ν : am_N2) : am_run (d + 1) 235 [.ref 133, .int (nI b), .int (nI s), .int x] (am_hp n μ ν) = some (none, am_hp n (am_up (am_up μ 145 (b + 1 + s) (nI 2)) 145 (b + 7 + s) x) ν) := by
  refine am_r235 (d := d + 0) (Nat.le_of_ble_eq_true rfl) [some (.ref 133), some (.int (nI b)), some (.int (nI s)), some (.int x)] rfl ?_
  refine am_q_aload_n rfl rfl ?_
  refine am_q_gr rfl rfl rfl ?_
  refine am_q_iload_n rfl rfl ?_
  refine am_q_iconst (v := nI 1) rfl rfl ?_
  refine am_q_iadd rfl (nI_add _ _) ?_
  refine am_q_iload_n rfl rfl ?_
  refine am_q_iadd rfl (nI_add _ _) ?_
  refine am_q_iconst (v := nI 2) rfl rfl ?_
  refine am_q_iast rfl rfl (by first | exact am_ix_nI (by omega) (by omega) | rfl) rfl ?_
  refine am_q_aload_n rfl rfl ?_
  refine am_q_gr rfl rfl rfl ?_
  refine am_q_iload_n rfl rfl ?_
  refine am_q_bipush (v := nI 7) rfl rfl ?_
  refine am_q_iadd rfl (nI_add _ _) ?_
  refine am_q_iload_n rfl rfl ?_
  refine am_q_iadd rfl (nI_add _ _) ?_
  refine am_q_iload_n rfl rfl ?_
  refine am_q_iast rfl rfl (by first | exact am_ix_nI (by omega) (by omega) | rfl) rfl ?_
  refine am_q_return rfl rfl ?_
  rfl

/-- StoneSecretsModel.leave(III)V -/
theorem m_leave (d : Nat) (n b s : Nat) (hb : b + 13 ≤ 836) (hs : s < 6) (x : Int32) (μ : am_M2) (ν : am_N2) : am_run (d + 1) 229 [.ref 133, .int (nI b), .int (nI s), .int x] (am_hp n μ ν) = some (none, am_hp n (am_up (am_up μ 145 (b + 1 + s) x) 145 (b + 7 + s) (-1)) ν) := by
  refine am_r229 (d := d + 0) (Nat.le_of_ble_eq_true rfl) [some (.ref 133), some (.int (nI b)), some (.int (nI s)), some (.int x)] rfl ?_
  refine am_q_aload_n rfl rfl ?_
  refine am_q_gr rfl rfl rfl ?_
  refine am_q_iload_n rfl rfl ?_
  refine am_q_iconst (v := nI 1) rfl rfl ?_
  refine am_q_iadd rfl (nI_add _ _) ?_
  refine am_q_iload_n rfl rfl ?_
  refine am_q_iadd rfl (nI_add _ _) ?_
  refine am_q_iload_n rfl rfl ?_
  refine am_q_iast rfl rfl (by first | exact am_ix_nI (by omega) (by omega) | rfl) rfl ?_
  refine am_q_aload_n rfl rfl ?_
  refine am_q_gr rfl rfl rfl ?_
  refine am_q_iload_n rfl rfl ?_
  refine am_q_bipush (v := nI 7) rfl rfl ?_
  refine am_q_iadd rfl (nI_add _ _) ?_
  refine am_q_iload_n rfl rfl ?_
  refine am_q_iadd rfl (nI_add _ _) ?_
  refine am_q_iconst (v := -1) rfl rfl ?_
  refine am_q_iast rfl rfl (by first | exact am_ix_nI (by omega) (by omega) | rfl) rfl ?_
  refine am_q_return rfl rfl ?_
  rfl

theorem mF_pos (V : sVal) : 0 < mF V := by unfold mF; split <;> omega
theorem mF_le {V : sVal} (hO : vOk V) : mF V ≤ 12 := by have := hO.1.2.2.1; unfold mF; split <;> omega
/-- StoneSecretsModel.frostAt(I)I -/
theorem m_frostAt (d : Nat) (n : Nat) {V : sVal} {μ : am_M2} (ν : am_N2) (hV : mVal μ V) (hO : vOk V) (t : Nat) (ht : t < 2 ^ 30) : am_run (d + 1) 239 [.ref 133, .int (nI t)] (am_hp n μ ν) = some (some (.int (nI (vCold V t))), am_hp n μ ν) := by
  have hm := Nat.mod_lt t (mF_pos V)
  have h1 := mF_pos V
  have h12 := mF_le hO
  refine am_r239 (d := d + 0) (Nat.le_of_ble_eq_true rfl) [some (.ref 133), some (.int (nI t))] rfl ?_
  refine am_q_aload_n rfl rfl ?_
  refine am_q_gr rfl rfl rfl ?_
  refine am_q_bipush (v := nI 29) rfl rfl ?_
  refine am_q_iload_n rfl rfl ?_
  refine am_q_aload_n rfl rfl ?_
  refine am_q_gr rfl rfl rfl ?_
  refine am_q_iconst (v := nI 3) rfl rfl ?_
  refine am_q_iald rfl rfl (by first | exact am_ix_nI (by omega) (by omega) | rfl) hV.2.2.2.1 ?_
  refine am_q_irem rfl (nI_ne0 h1 (by omega)) (pk_rem (by omega) h1 (by omega)) ?_
  refine am_q_iadd rfl (nI_add _ _) ?_
  refine am_q_iald rfl rfl (am_ix_nI (show 29 + t % mF V < 100 by omega) (by decide)) (hV.2.2.2.2.2.1 _ hm) ?_
  refine am_q_ireturn rfl rfl rfl ?_
  unfold vCold mF; split <;> rfl

theorem sBs_tb (q p : Nat) : (sBs (some q)).testBit p = (decide (q = p + 1) || decide (q + 1 = p)) := by
  show (2 ^ (q + 1) ||| 2 ^ q / 2).testBit p = _
  have e : 2 ^ q / 2 = if q = 0 then 0 else 2 ^ (q - 1) := by
    cases q with
    | zero => rfl
    | succ q => rw [Nat.pow_succ, Nat.mul_div_cancel _ (by decide)]; rfl
  rw [e, Nat.testBit_or, Nat.testBit_two_pow]
  by_cases hq : q = 0
  · subst hq; simp
  · rw [if_neg hq, Nat.testBit_two_pow, Bool.or_comm]
    congr 1
    rw [decide_eq_decide]; omega
theorem sNear_tb {V : sVal} {pl : Nat → Option Nat} {s p : Nat} : ∀ n, (sNear V pl s n).testBit p = true ↔ ∃ x, x < n ∧ (vFo V s).testBit x = true ∧ sAdj pl p x = true
  | 0 => ⟨fun h => by simp [sNear] at h, fun ⟨x, h, _⟩ => by omega⟩
  | n + 1 => by
    have ih := sNear_tb (V := V) (pl := pl) (s := s) (p := p) n
    have e : sNear V pl s (n + 1) = bif (vFo V s).testBit n then sNear V pl s n ||| sBs (pl n) else sNear V pl s n := rfl
    rw [e]
    have hadj : sAdj pl p n = (sBs (pl n)).testBit p := by
      unfold sAdj
      cases pl n with
      | none => simp [sBs]
      | some q => rw [sBs_tb]
    cases hf : (vFo V s).testBit n with
    | false =>
      rw [cond_false, ih]
      exact ⟨fun ⟨x, h1, h2⟩ => ⟨x, by omega, h2⟩, fun ⟨x, h1, h2, h3⟩ => ⟨x, by
        by_cases z : x = n
        · rw [z, hf] at h2; cases h2
        · omega, h2, h3⟩⟩
    | true =>
      rw [cond_true, Nat.testBit_or, Bool.or_eq_true, ih, ← hadj]
      constructor
      · rintro (⟨x, h1, h2⟩ | h)
        · exact ⟨x, by omega, h2⟩
        · exact ⟨n, by omega, hf, h⟩
      · rintro ⟨x, h1, h2, h3⟩
        by_cases z : x = n
        · right; rw [← z]; exact h3
        · left; exact ⟨x, by omega, h2, h3⟩
theorem mAdj_0 {V : sVal} {pl : Nat → Option Nat} {s p : Nat} : sBits (sAdj pl p) (vN V) &&& vFo V s = 0 ↔ (sNear V pl s (vN V)).testBit p = false := by
  constructor
  · intro h
    rw [Bool.eq_false_iff]
    intro q
    obtain ⟨x, h1, h2, h3⟩ := (sNear_tb _).mp q
    have : (sBits (sAdj pl p) (vN V) &&& vFo V s).testBit x = true := by rw [Nat.testBit_and, sBits_tb, h3, h2]; simp [h1]
    rw [h] at this
    simp at this
  · intro h
    apply Nat.eq_of_testBit_eq
    intro x
    rw [Nat.zero_testBit, Nat.testBit_and, sBits_tb, Bool.eq_false_iff]
    intro q
    simp only [Bool.and_eq_true, decide_eq_true_eq] at q
    have := (sNear_tb (V := V) (pl := pl) (s := s) (p := p) (vN V)).mpr ⟨x, q.1.1, q.2, q.1.2⟩
    rw [h] at this
    cases this
theorem sMay_0 {V : sVal} {pl : Nat → Option Nat} {s p i : Nat} (h6 : vN V ≤ 6) (hp : pOk V pl) (h : sAt pl p (vN V) = some i) : sMay V pl s p = false := by
  unfold sMay; rw [← sAt_some h6 hp p, h]; rfl
theorem sMay_1 {V : sVal} {pl : Nat → Option Nat} {s p : Nat} (h6 : vN V ≤ 6) (hp : pOk V pl) (h : sAt pl p (vN V) = none) : sMay V pl s p = true ↔ mBe pl p (vN V) &&& vFo V s = 0 := by
  unfold sMay; rw [← sAt_some h6 hp p, h, mBe_adj h6 hp, mAdj_0]; simp
/-- StoneSecretsModel.mayStand(III)Z -/
theorem m_mayStand (d : Nat) (n : Nat) {V : sVal} {W : sWall} {μ : am_M2} (ν : am_N2) (hV : mVal μ V) (hO : vOk V) (b : Nat) (hb : b + 13 ≤ 836) (hW : mWall μ b W) (hI : sI (vN V) (vP V) W.1 W.2.1) (s : Nat) (hs : s < vN V) (p : Nat) (hp : p < 2 ^ 20) : am_run (d + 4) 232 [.ref 133, .int (nI b), .int (nI s), .int (nI p)] (am_hp n μ ν) = some (some (.int (sB (sMay V W.2.1 s p))), am_hp n μ ν) := by
  have h6 := hO.1.1
  have hP8 := hO.1.2.1
  have h8 := sI_8 hO hI
  have hpk := sI_p hI
  have hf := vFo_lt hO hs
  have hm := mBe_64 h6 hpk p
  refine am_r232 (d := d + 3) (Nat.le_of_ble_eq_true rfl) [some (.ref 133), some (.int (nI b)), some (.int (nI s)), some (.int (nI p))] rfl ?_
  refine am_q_aload_n rfl rfl ?_
  refine am_q_iload_n rfl rfl ?_
  refine am_q_iload_n rfl rfl ?_
  refine am_q_call rfl rfl (m_whoAt _ n ν hV hO b hb hW hI p (by omega)) rfl ?_
  refine am_q_if_ge rfl (fun c_6 => ?_) (fun c_6 => ?_)
  · obtain ⟨i, hi⟩ := sn_place_ge (fun z hz => by have := sAt_lt hz; omega) c_6
    refine am_q_iconst (v := nI 0) rfl rfl ?_
    refine am_q_ireturn rfl rfl rfl ?_
    first | (rw [sMay_0 h6 hpk hi]; rfl) | (rw [(sMay_1 h6 hpk hn).mpr c_21]; rfl) | (rw [Bool.eq_false_iff.mpr (fun z => c_21 ((sMay_1 h6 hpk hn).mp z))]; rfl)
  · have hn := sn_place_nge (fun z hz => by have := sAt_lt hz; omega) c_6
    refine am_q_aload_n rfl rfl ?_
    refine am_q_iload_n rfl rfl ?_
    refine am_q_iload_n rfl rfl ?_
    refine am_q_call rfl rfl (m_besideOf _ n ν hV hO b hb hW hI p hp) rfl ?_
    refine am_q_aload_n rfl rfl ?_
    refine am_q_iload_n rfl rfl ?_
    refine am_q_call rfl rfl (m_hurtBy _ n ν hV hO s hs) rfl ?_
    refine am_q_iand rfl (sn_and _ _) ?_
    refine am_q_zneN rfl (Nat.lt_of_le_of_lt Nat.and_le_right (by omega)) (fun c_21 => ?_) (fun c_21 => ?_)
    · refine am_q_iconst (v := nI 0) rfl rfl ?_
      refine am_q_ireturn rfl rfl rfl ?_
      first | (rw [sMay_0 h6 hpk hi]; rfl) | (rw [(sMay_1 h6 hpk hn).mpr c_21]; rfl) | (rw [Bool.eq_false_iff.mpr (fun z => c_21 ((sMay_1 h6 hpk hn).mp z))]; rfl)
    · refine am_q_iconst (v := nI 1) rfl rfl ?_
      refine am_q_goto rfl ?_
      refine am_q_ireturn rfl rfl rfl ?_
      first | (rw [sMay_0 h6 hpk hi]; rfl) | (rw [(sMay_1 h6 hpk hn).mpr c_21]; rfl) | (rw [Bool.eq_false_iff.mpr (fun z => c_21 ((sMay_1 h6 hpk hn).mp z))]; rfl)

theorem mEnc_k {x : Int} (h1 : -12 ≤ x) (h2 : x < 10000) : (mEnc x % 16 = 1 ↔ 0 ≤ x) ∧ (mEnc x % 16 = 2 ↔ (x < 0 ∧ -4 ≤ x)) ∧ (mEnc x % 16 = 3 ↔ x = -5) ∧ 1 ≤ mEnc x % 16 ∧ mEnc x % 16 ≤ 10 ∧ mEnc x < 2 ^ 20 ∧ (0 ≤ x → mEnc x / 16 = x.toNat) ∧ (x < 0 → mEnc x / 16 < 4) := by
  unfold mEnc
  repeat' split
  all_goals (refine ⟨by omega, by omega, by omega, by omega, by omega, by omega, by omega, by omega⟩)
theorem lwJ_m {x : Int} (h1 : -12 ≤ x) (h2 : x < -5) : x = -6 ∧ mEnc x % 16 = 9 ∨ x = -7 ∧ mEnc x % 16 = 10 ∨ x = -8 ∧ mEnc x % 16 = 7 ∨ x = -9 ∧ mEnc x % 16 = 8 ∨ x = -10 ∧ mEnc x % 16 = 4 ∨ x = -11 ∧ mEnc x % 16 = 5 ∨ x = -12 ∧ mEnc x % 16 = 6 := by
  rcases (show x = -6 ∨ x = -7 ∨ x = -8 ∨ x = -9 ∨ x = -10 ∨ x = -11 ∨ x = -12 by omega) with rfl | rfl | rfl | rfl | rfl | rfl | rfl <;> decide
theorem m_work9 (d : Nat) (a e : Int32) (h : am_H) : am_run (d + 1) 244 [.int (nI 9), .int a, .int e] (h) = some (some (.int (lwJ (-6) a e)), h) := by
  refine am_r244 (d := d + 0) (Nat.le_of_ble_eq_true rfl) [some (.int (nI 9)), some (.int a), some (.int e)] rfl ?_
  refine am_q_iload_n rfl rfl ?_
  refine am_q_tsw (t := 74) rfl (by decide) ?_
  refine am_q_iload_n rfl rfl ?_
  refine am_q_if_eq rfl (fun c_75 => ?_) (fun c_75 => ?_)
  · refine am_q_iconst (v := nI 0) rfl rfl ?_
    refine am_q_ireturn rfl rfl rfl ?_
    show _ = (some (Value.int (sB (decide (a ≠ 0) && decide (e ≠ 0)))), h)
    first | (rw [decide_eq_true c_75, decide_eq_true c_79]; rfl) | (rw [decide_eq_true c_75, decide_eq_false (fun z => z c_79)]; rfl) | (rw [decide_eq_false (fun z => z c_75)]; rfl)
  · refine am_q_iload_n rfl rfl ?_
    refine am_q_if_eq rfl (fun c_79 => ?_) (fun c_79 => ?_)
    · refine am_q_iconst (v := nI 0) rfl rfl ?_
      refine am_q_ireturn rfl rfl rfl ?_
      show _ = (some (Value.int (sB (decide (a ≠ 0) && decide (e ≠ 0)))), h)
      first | (rw [decide_eq_true c_75, decide_eq_true c_79]; rfl) | (rw [decide_eq_true c_75, decide_eq_false (fun z => z c_79)]; rfl) | (rw [decide_eq_false (fun z => z c_75)]; rfl)
    · refine am_q_iconst (v := nI 1) rfl rfl ?_
      refine am_q_goto rfl ?_
      refine am_q_ireturn rfl rfl rfl ?_
      show _ = (some (Value.int (sB (decide (a ≠ 0) && decide (e ≠ 0)))), h)
      first | (rw [decide_eq_true c_75, decide_eq_true c_79]; rfl) | (rw [decide_eq_true c_75, decide_eq_false (fun z => z c_79)]; rfl) | (rw [decide_eq_false (fun z => z c_75)]; rfl)

theorem m_work10 (d : Nat) (a e : Int32) (h : am_H) : am_run (d + 1) 244 [.int (nI 10), .int a, .int e] (h) = some (some (.int (lwJ (-7) a e)), h) := by
  refine am_r244 (d := d + 0) (Nat.le_of_ble_eq_true rfl) [some (.int (nI 10)), some (.int a), some (.int e)] rfl ?_
  refine am_q_iload_n rfl rfl ?_
  refine am_q_tsw (t := 88) rfl (by decide) ?_
  refine am_q_iload_n rfl rfl ?_
  refine am_q_if_ne rfl (fun c_89 => ?_) (fun c_89 => ?_)
  · refine am_q_iconst (v := nI 1) rfl rfl ?_
    refine am_q_goto rfl ?_
    refine am_q_ireturn rfl rfl rfl ?_
    show _ = (some (Value.int (sB (decide (a ≠ 0) || decide (e ≠ 0)))), h)
    first | (rw [decide_eq_true c_89]; rfl) | (rw [decide_eq_false (fun z => z c_89), decide_eq_true c_93]; rfl) | (rw [decide_eq_false (fun z => z c_89), decide_eq_false (fun z => z c_93)]; rfl)
  · refine am_q_iload_n rfl rfl ?_
    refine am_q_if_eq rfl (fun c_93 => ?_) (fun c_93 => ?_)
    · refine am_q_iconst (v := nI 0) rfl rfl ?_
      refine am_q_ireturn rfl rfl rfl ?_
      show _ = (some (Value.int (sB (decide (a ≠ 0) || decide (e ≠ 0)))), h)
      first | (rw [decide_eq_true c_89]; rfl) | (rw [decide_eq_false (fun z => z c_89), decide_eq_true c_93]; rfl) | (rw [decide_eq_false (fun z => z c_89), decide_eq_false (fun z => z c_93)]; rfl)
    · refine am_q_iconst (v := nI 1) rfl rfl ?_
      refine am_q_goto rfl ?_
      refine am_q_ireturn rfl rfl rfl ?_
      show _ = (some (Value.int (sB (decide (a ≠ 0) || decide (e ≠ 0)))), h)
      first | (rw [decide_eq_true c_89]; rfl) | (rw [decide_eq_false (fun z => z c_89), decide_eq_true c_93]; rfl) | (rw [decide_eq_false (fun z => z c_89), decide_eq_false (fun z => z c_93)]; rfl)

theorem m_work7 (d : Nat) (a e : Int32) (h : am_H) : am_run (d + 1) 244 [.int (nI 7), .int a, .int e] (h) = some (some (.int (lwJ (-8) a e)), h) := by
  refine am_r244 (d := d + 0) (Nat.le_of_ble_eq_true rfl) [some (.int (nI 7)), some (.int a), some (.int e)] rfl ?_
  refine am_q_iload_n rfl rfl ?_
  refine am_q_tsw (t := 52) rfl (by decide) ?_
  refine am_q_iload_n rfl rfl ?_
  refine am_q_iload_n rfl rfl ?_
  refine am_q_icmp_ge rfl (fun c_54 => ?_) (fun c_54 => ?_)
  · refine am_q_iconst (v := nI 0) rfl rfl ?_
    refine am_q_ireturn rfl rfl rfl ?_
    show _ = (some (Value.int (sB (decide (a < e)))), h)
    first | (rw [decide_eq_false (Int32.not_lt.mpr c_54)]; rfl) | (rw [decide_eq_true (fa_of_nle c_54)]; rfl)
  · refine am_q_iconst (v := nI 1) rfl rfl ?_
    refine am_q_goto rfl ?_
    refine am_q_ireturn rfl rfl rfl ?_
    show _ = (some (Value.int (sB (decide (a < e)))), h)
    first | (rw [decide_eq_false (Int32.not_lt.mpr c_54)]; rfl) | (rw [decide_eq_true (fa_of_nle c_54)]; rfl)

theorem m_work8 (d : Nat) (a e : Int32) (h : am_H) : am_run (d + 1) 244 [.int (nI 8), .int a, .int e] (h) = some (some (.int (lwJ (-9) a e)), h) := by
  refine am_r244 (d := d + 0) (Nat.le_of_ble_eq_true rfl) [some (.int (nI 8)), some (.int a), some (.int e)] rfl ?_
  refine am_q_iload_n rfl rfl ?_
  refine am_q_tsw (t := 63) rfl (by decide) ?_
  refine am_q_iload_n rfl rfl ?_
  refine am_q_iload_n rfl rfl ?_
  refine am_q_icmp_ne rfl (fun c_65 => ?_) (fun c_65 => ?_)
  · refine am_q_iconst (v := nI 0) rfl rfl ?_
    refine am_q_ireturn rfl rfl rfl ?_
    show _ = (some (Value.int (sB (decide (a = e)))), h)
    first | (rw [decide_eq_false c_65]; rfl) | (rw [decide_eq_true c_65]; rfl)
  · refine am_q_iconst (v := nI 1) rfl rfl ?_
    refine am_q_goto rfl ?_
    refine am_q_ireturn rfl rfl rfl ?_
    show _ = (some (Value.int (sB (decide (a = e)))), h)
    first | (rw [decide_eq_false c_65]; rfl) | (rw [decide_eq_true c_65]; rfl)

theorem m_work4 (d : Nat) (a e : Int32) (h : am_H) : am_run (d + 1) 244 [.int (nI 4), .int a, .int e] (h) = some (some (.int (lwJ (-10) a e)), h) := by
  refine am_r244 (d := d + 0) (Nat.le_of_ble_eq_true rfl) [some (.int (nI 4)), some (.int a), some (.int e)] rfl ?_
  refine am_q_iload_n rfl rfl ?_
  refine am_q_tsw (t := 40) rfl (by decide) ?_
  refine am_q_iload_n rfl rfl ?_
  refine am_q_iload_n rfl rfl ?_
  refine am_q_iadd rfl rfl ?_
  refine am_q_ireturn rfl rfl rfl ?_
  rfl

theorem m_work5 (d : Nat) (a e : Int32) (h : am_H) : am_run (d + 1) 244 [.int (nI 5), .int a, .int e] (h) = some (some (.int (lwJ (-11) a e)), h) := by
  refine am_r244 (d := d + 0) (Nat.le_of_ble_eq_true rfl) [some (.int (nI 5)), some (.int a), some (.int e)] rfl ?_
  refine am_q_iload_n rfl rfl ?_
  refine am_q_tsw (t := 44) rfl (by decide) ?_
  refine am_q_iload_n rfl rfl ?_
  refine am_q_iload_n rfl rfl ?_
  refine am_q_isub rfl rfl ?_
  refine am_q_ireturn rfl rfl rfl ?_
  rfl

theorem m_work6 (d : Nat) (a e : Int32) (h : am_H) : am_run (d + 1) 244 [.int (nI 6), .int a, .int e] (h) = some (some (.int (lwJ (-12) a e)), h) := by
  refine am_r244 (d := d + 0) (Nat.le_of_ble_eq_true rfl) [some (.int (nI 6)), some (.int a), some (.int e)] rfl ?_
  refine am_q_iload_n rfl rfl ?_
  refine am_q_tsw (t := 48) rfl (by decide) ?_
  refine am_q_iload_n rfl rfl ?_
  refine am_q_iload_n rfl rfl ?_
  refine am_q_imul rfl rfl ?_
  refine am_q_ireturn rfl rfl rfl ?_
  rfl

theorem m_worked (d : Nat) {x : Int} (h1 : -12 ≤ x) (h2 : x < -5) (a e : Int32) (h : am_H) : am_run (d + 1) 244 [.int (nI (mEnc x % 16)), .int a, .int e] h = some (some (.int (lwJ x a e)), h) := by
  rcases lwJ_m h1 h2 with ⟨rfl, q⟩ | ⟨rfl, q⟩ | ⟨rfl, q⟩ | ⟨rfl, q⟩ | ⟨rfl, q⟩ | ⟨rfl, q⟩ | ⟨rfl, q⟩
  · rw [q]; exact m_work9 d a e h
  · rw [q]; exact m_work10 d a e h
  · rw [q]; exact m_work7 d a e h
  · rw [q]; exact m_work8 d a e h
  · rw [q]; exact m_work4 d a e h
  · rw [q]; exact m_work5 d a e h
  · rw [q]; exact m_work6 d a e h