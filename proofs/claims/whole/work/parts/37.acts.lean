/-! ===== the class's whole picture ===== -/
/-- what is SEEN: how many, PLACES, weights, whether so much or more -/
abbrev sSeen : Type := Nat × (Nat → Nat) × (Nat → Nat) × (Nat → Bool)
def xSeen (μ : am_M2) (c : Nat) (S : sSeen) : Prop := μ c 3 = nI S.1 ∧ S.1 ≤ 8 ∧ (∀ i, i < S.1 → μ (c + 1) i = nI (S.2.1 i) ∧ μ (c + 2) i = nI (S.2.2.1 i)) ∧ ∃ u, u < 256 ∧ μ c 2 = nI u ∧ ∀ i, i < S.1 → u.testBit i = S.2.2.2 i
def xMk (μ : am_M2) (K : Nat → Option (sWall × sSeen)) : Prop := μ 41 3 = nI (sBits (fun m => (K m).isSome) 4) ∧ ∀ m, m < 4 → ∀ w s, K m = some (w, s) → xWall μ (93 + 6 * m) w ∧ xSeen μ (96 + 6 * m) s
/-- a YEAR: how many lines, deeds, SOULS, PLACES -/
abbrev sYear : Type := Nat × (Nat → Nat) × (Nat → Nat) × (Nat → Nat)
def ySo (Y : sYear) (i : Nat) : Int32 := if Y.2.1 i = 0 then -1 else nI (Y.2.2.1 i)
def yPl (Y : sYear) (i : Nat) : Int32 := if Y.2.1 i = 2 then nI (Y.2.2.2 i) else -1
def xYear (μ : am_M2) (Y : sYear) : Prop := μ 27 3 = nI Y.1 ∧ Y.1 ≤ 40 ∧ ∀ i, i < Y.1 → μ 28 i = nI (Y.2.1 i) ∧ μ 29 i = ySo Y i ∧ μ 30 i = yPl Y i
def xR (μ : am_M2) (V : sVal) (W : sWall) (U : List sWall) (K : Nat → Option (sWall × sSeen)) (S : sSeen) (Y : sYear) : Prop := xVal μ V ∧ xWall μ 35 W ∧ xUndo μ U ∧ xMk μ K ∧ xSeen μ 117 S ∧ xYear μ Y
theorem xSeen_rows {μ μ' : am_M2} {c : Nat} {S : sSeen} (h : ∀ i, c ≤ i → i < c + 3 → μ' i = μ i) (hS : xSeen μ c S) : xSeen μ' c S := by
  obtain ⟨h1, h2, h3, u, h4, h5, h6⟩ := hS
  exact ⟨by rw [h c (by omega) (by omega)]; exact h1, h2, fun i hi => by rw [h (c + 1) (by omega) (by omega), h (c + 2) (by omega) (by omega)]; exact h3 i hi, u, h4, by rw [h c (by omega) (by omega)]; exact h5, h6⟩
theorem xMk_rows {μ μ' : am_M2} {K : Nat → Option (sWall × sSeen)} (h0 : μ' 41 3 = μ 41 3) (h : ∀ i, 93 ≤ i → i < 117 → μ' i = μ i) (hK : xMk μ K) : xMk μ' K :=
  ⟨by rw [h0]; exact hK.1, fun m hm w s e => ⟨xW_rows (fun i a b => h i (by omega) (by omega)) (hK.2 m hm w s e).1, xSeen_rows (fun i a b => h i (by omega) (by omega)) (hK.2 m hm w s e).2⟩⟩
theorem xYear_rows {μ μ' : am_M2} {Y : sYear} (h : ∀ i, 27 ≤ i → i < 31 → μ' i = μ i) (hY : xYear μ Y) : xYear μ' Y :=
  ⟨by rw [h 27 (by omega) (by omega)]; exact hY.1, hY.2.1, fun i hi => by rw [h 28 (by omega) (by omega), h 29 (by omega) (by omega), h 30 (by omega) (by omega)]; exact hY.2.2 i hi⟩
theorem xR_rows {μ μ' : am_M2} {V : sVal} {W : sWall} {U : List sWall} {K : Nat → Option (sWall × sSeen)} {S : sSeen} {Y : sYear} (h : ∀ i, (5 ≤ i ∧ i < 15) ∨ (27 ≤ i ∧ i < 31) ∨ (35 ≤ i ∧ i < 38) ∨ (41 ≤ i ∧ i < 120) → μ' i = μ i) (hR : xR μ V W U K S Y) : xR μ' V W U K S Y := by
  obtain ⟨h1, h2, h3, h4, h5, h6⟩ := hR
  exact ⟨xVal_rows (fun i a b => h i (by omega)) h1, xW_rows (fun i a b => h i (by omega)) h2, xUndo_rows ⟨by rw [h 41 (by omega)], by rw [h 41 (by omega)]⟩ (fun i a b => h i (by omega)) h3, xMk_rows (by rw [h 41 (by omega)]) (fun i a b => h i (by omega)) h4, xSeen_rows (fun i a b => h i (by omega)) h5, xYear_rows (fun i a b => h i (by omega)) h6⟩
theorem xR_fr {μ μ' : am_M2} {V : sVal} {W : sWall} {U : List sWall} {K : Nat → Option (sWall × sSeen)} {S : sSeen} {Y : sYear} (hf : fr μ μ') (hR : xR μ V W U K S Y) : xR μ' V W U K S Y :=
  xR_rows (fun i hi => funext fun k => hf i k (by omega)) hR
/-- the class alone changed -/
def frX (μ μ' : am_M2) : Prop := ∀ i, i < 5 ∨ 133 ≤ i → μ' i = μ i
theorem frX_rf (μ : am_M2) : frX μ μ := fun _ _ => rfl
theorem frX_tr {μ μ' μ'' : am_M2} (h : frX μ μ') (h' : frX μ' μ'') : frX μ μ'' := fun i q => (h' i q).trans (h i q)
def isSn (n c : Nat) : Prop := am_S0 n c = some (.inr (4, [.inl (some (c + 1)), .inl (some (c + 2)), .inr true, .inr true])) ∧ am_S0 n (c + 1) = some (.inl (.int, true, 8, fun _ => none)) ∧ am_S0 n (c + 2) = some (.inl (.int, true, 8, fun _ => none))
theorem isSn_mark (n k : Nat) (hk : k < 4) : isSn n (96 + 6 * k) := by
  rcases (show k = 0 ∨ k = 1 ∨ k = 2 ∨ k = 3 by omega) with rfl | rfl | rfl | rfl <;> exact ⟨rfl, rfl, rfl⟩
theorem isSn_117 (n : Nat) : isSn n 117 := ⟨rfl, rfl, rfl⟩
theorem x_act0 (d : Nat) (e : Nat) (he : e < 4) (s p : Int32) (n : Nat) {V : sVal} {W : sWall} {U : List sWall} {K : Nat → Option (sWall × sSeen)} {S : sSeen} {Y : sYear} {μ : am_M2} (ν : am_N2) (hR : xR μ V W U K S Y) (hO : vOk V) (hI : sI (vN V) (vP V) W.1 W.2.1) (ht : W.2.2 < 2 ^ 20) (hc : dCan V W e s p = false) : ∃ (u : Unit), am_run (d + 5) 71 [.ref 2, .int (nI e), .int s, .int p] (am_hp n μ ν) = some (some (.int (sB false)), am_hp n μ ν) := by
  obtain ⟨hV, hW, hU, hK, hS, hY⟩ := hR
  have h6 := hO.1.1
  have hP8 := hO.1.2.1
  have h8 := sI_8 hO hI
  have key : ∃ r, am_run (d + 5) 71 [.ref 2, .int (nI e), .int s, .int p] (am_hp n μ ν) = some r ∧ ∃ (u : Unit), r = (some (.int (sB false)), am_hp n μ ν) := am_run_wE (k := 71) (d := d + 4) rfl rfl (Nat.le_of_ble_eq_true rfl) [some (.ref 2), some (.int (nI e)), some (.int s), some (.int p)] rfl (by
    refine am_q_aload_n rfl rfl ?_
    refine am_q_gr rfl rfl rfl ?_
    refine am_q_iload_n rfl rfl ?_
    refine am_q_iload_n rfl rfl ?_
    refine am_q_iload_n rfl rfl ?_
    refine am_q_call rfl rfl (s_allows35 _ e he s p n ν hV hO hW hI) rfl ?_
    refine am_q_if_neB rfl (fun c_10 => absurd c_10 (by simp [hc])) (fun c_10 => ?_)
    refine am_q_iconst (v := nI 0) rfl rfl ?_
    refine am_q_ireturn rfl rfl rfl ?_
    exact ⟨(), rfl⟩)
  obtain ⟨r, h1, u, h2⟩ := key
  exact ⟨u, by rw [h1, h2]⟩

theorem x_act1 (d : Nat) (e : Nat) (he : e < 4) (s p : Int32) (n : Nat) {V : sVal} {W : sWall} {U : List sWall} {K : Nat → Option (sWall × sSeen)} {S : sSeen} {Y : sYear} {μ : am_M2} (ν : am_N2) (hR : xR μ V W U K S Y) (hO : vOk V) (hI : sI (vN V) (vP V) W.1 W.2.1) (ht : W.2.2 < 2 ^ 20) (hc : dCan V W e s p = true) : ∃ (μ' : am_M2), am_run (d + 7) 71 [.ref 2, .int (nI e), .int s, .int p] (am_hp n μ ν) = some (some (.int (sB true)), am_hp n μ' ν) ∧ xR μ' V (dDo V W e s p) ((W :: U).take 16) K S Y ∧ frX μ μ' := by
  obtain ⟨hV, hW, hU, hK, hS, hY⟩ := hR
  have h6 := hO.1.1
  have hP8 := hO.1.2.1
  have h8 := sI_8 hO hI
  obtain ⟨μ1, hk, hu1, hm1, hr1⟩ := s_keep (d + 4) n ν hU hW
  have hV1 := xVal_rows (fun i a b => hr1 i (by omega)) hV
  have hW1 := xW_rows (fun i a b => hr1 i (by omega)) hW
  obtain ⟨g, a, b, hp, ha, hb⟩ := s_perform35 d e he s p n ν hV1 hO hW1 hI (by omega) hc
  have key : ∃ r, am_run (d + 7) 71 [.ref 2, .int (nI e), .int s, .int p] (am_hp n μ ν) = some r ∧ ∃ (μ' : am_M2), r = (some (.int (sB true)), am_hp n μ' ν) ∧ xR μ' V (dDo V W e s p) ((W :: U).take 16) K S Y ∧ frX μ μ' := am_run_wE (k := 71) (d := d + 6) rfl rfl (Nat.le_of_ble_eq_true rfl) [some (.ref 2), some (.int (nI e)), some (.int s), some (.int p)] rfl (by
    refine am_q_aload_n rfl rfl ?_
    refine am_q_gr rfl rfl rfl ?_
    refine am_q_iload_n rfl rfl ?_
    refine am_q_iload_n rfl rfl ?_
    refine am_q_iload_n rfl rfl ?_
    refine am_q_call rfl rfl (s_allows35 _ e he s p n ν hV hO hW hI) rfl ?_
    refine am_q_if_neB rfl (fun c_10 => ?_) (fun c_10 => absurd c_10 (by simp [hc]))
    refine am_q_aload_n rfl rfl ?_
    refine am_q_gr rfl rfl rfl ?_
    refine am_q_aload_n rfl rfl ?_
    refine am_q_gr rfl rfl rfl ?_
    refine am_q_call rfl rfl (hk) rfl ?_
    refine am_q_aload_n rfl rfl ?_
    refine am_q_gr rfl rfl rfl ?_
    refine am_q_iload_n rfl rfl ?_
    refine am_q_iload_n rfl rfl ?_
    refine am_q_iload_n rfl rfl ?_
    refine am_q_call rfl rfl (hp) rfl ?_
    refine am_q_iconst (v := nI 1) rfl rfl ?_
    refine am_q_ireturn rfl rfl rfl ?_
    have hrow : ∀ i, i ≠ 15 → (i < 35 ∨ 38 ≤ i) → am_wl (am_rw μ1 15 g) 35 a b (nI (dDo V W e s p).2.2) i = μ1 i := fun i h1 h2 => by
      rw [am_wl_row h2]; funext k; unfold am_rw; rw [if_neg h1]
    exact ⟨_, rfl, ⟨xVal_rows (fun i q1 q2 => hrow i (by omega) (by omega)) hV1, xW_wl ha hb, xUndo_rows ⟨by rw [hrow 41 (by omega) (by omega)], by rw [hrow 41 (by omega) (by omega)]⟩ (fun i q1 q2 => hrow i (by omega) (by omega)) hu1, xMk_rows (by rw [hrow 41 (by omega) (by omega)]; exact hm1) (fun i q1 q2 => (hrow i (by omega) (by omega)).trans (hr1 i (by omega))) hK, xSeen_rows (fun i q1 q2 => (hrow i (by omega) (by omega)).trans (hr1 i (by omega))) hS, xYear_rows (fun i q1 q2 => (hrow i (by omega) (by omega)).trans (hr1 i (by omega))) hY⟩, fun i q => (hrow i (by omega) (by omega)).trans (hr1 i (by omega))⟩)
  obtain ⟨r, h1, μ', h2, h3⟩ := key
  exact ⟨μ', by rw [h1, h2], h3⟩

/-- a deed by hand -/
def dW (V : sVal) (W : sWall) (e : Nat) (s p : Int32) : sWall := if dCan V W e s p = true then dDo V W e s p else W
def dU (V : sVal) (W : sWall) (U : List sWall) (e : Nat) (s p : Int32) : List sWall := if dCan V W e s p = true then (W :: U).take 16 else U
theorem x_act (d e : Nat) (he : e < 4) (s p : Int32) (n : Nat) {V : sVal} {W : sWall} {U : List sWall} {K : Nat → Option (sWall × sSeen)} {S : sSeen} {Y : sYear} {μ : am_M2} (ν : am_N2) (hR : xR μ V W U K S Y) (hO : vOk V) (hI : sI (vN V) (vP V) W.1 W.2.1) (ht : W.2.2 < 2 ^ 20) : ∃ μ', am_run (d + 7) 71 [.ref 2, .int (nI e), .int s, .int p] (am_hp n μ ν) = some (some (.int (sB (dCan V W e s p))), am_hp n μ' ν) ∧ xR μ' V (dW V W e s p) (dU V W U e s p) K S Y ∧ frX μ μ' := by
  cases hc : dCan V W e s p with
  | false =>
    obtain ⟨-, h⟩ := x_act0 (d + 2) e he s p n ν hR hO hI ht hc
    refine ⟨μ, h, ?_, frX_rf _⟩
    unfold dW dU
    rw [if_neg (by simp [hc]), if_neg (by simp [hc])]
    exact hR
  | true =>
    obtain ⟨μ', h, h1, h2⟩ := x_act1 d e he s p n ν hR hO hI ht hc
    refine ⟨μ', h, ?_, h2⟩
    unfold dW dU
    rw [if_pos hc, if_pos hc]
    exact h1
/-- StoneSecrets.tell(I)Z -/
theorem x_tell (d : Nat) (s : Int32) (n : Nat) {V : sVal} {W : sWall} {U : List sWall} {K : Nat → Option (sWall × sSeen)} {S : sSeen} {Y : sYear} {μ : am_M2} (ν : am_N2) (hR : xR μ V W U K S Y) (hO : vOk V) (hI : sI (vN V) (vP V) W.1 W.2.1) (ht : W.2.2 < 2 ^ 20) : ∃ (μ' : am_M2), am_run (d + 8) 70 [.ref 2, .int s] (am_hp n μ ν) = some (some (.int (sB (dCan V W 1 s (-1)))), am_hp n μ' ν) ∧ xR μ' V (dW V W 1 s (-1)) (dU V W U 1 s (-1)) K S Y ∧ frX μ μ' := by
  obtain ⟨μ1, h, h1, h2⟩ := x_act d 1 (by decide) s (-1) n ν hR hO hI ht
  have key : ∃ r, am_run (d + 8) 70 [.ref 2, .int s] (am_hp n μ ν) = some r ∧ ∃ (μ' : am_M2), r = (some (.int (sB (dCan V W 1 s (-1)))), am_hp n μ' ν) ∧ xR μ' V (dW V W 1 s (-1)) (dU V W U 1 s (-1)) K S Y ∧ frX μ μ' := am_run_wE (k := 70) (d := d + 7) rfl rfl (Nat.le_of_ble_eq_true rfl) [some (.ref 2), some (.int s)] rfl (by
    refine am_q_aload_n rfl rfl ?_
    refine am_q_iconst (v := nI 1) rfl rfl ?_
    refine am_q_iload_n rfl rfl ?_
    refine am_q_iconst (v := -1) rfl rfl ?_
    refine am_q_call rfl rfl (h) rfl ?_
    refine am_q_ireturn rfl rfl (sB_ok _) ?_
    exact ⟨_, rfl, h1, h2⟩)
  obtain ⟨r, h1, μ', h2, h3⟩ := key
  exact ⟨μ', by rw [h1, h2], h3⟩

/-- StoneSecrets.sets(II)Z -/
theorem x_sets (d : Nat) (s p : Int32) (n : Nat) {V : sVal} {W : sWall} {U : List sWall} {K : Nat → Option (sWall × sSeen)} {S : sSeen} {Y : sYear} {μ : am_M2} (ν : am_N2) (hR : xR μ V W U K S Y) (hO : vOk V) (hI : sI (vN V) (vP V) W.1 W.2.1) (ht : W.2.2 < 2 ^ 20) : ∃ (μ' : am_M2), am_run (d + 8) 92 [.ref 2, .int s, .int p] (am_hp n μ ν) = some (some (.int (sB (dCan V W 2 s p))), am_hp n μ' ν) ∧ xR μ' V (dW V W 2 s p) (dU V W U 2 s p) K S Y ∧ frX μ μ' := by
  obtain ⟨μ1, h, h1, h2⟩ := x_act d 2 (by decide) s p n ν hR hO hI ht
  have key : ∃ r, am_run (d + 8) 92 [.ref 2, .int s, .int p] (am_hp n μ ν) = some r ∧ ∃ (μ' : am_M2), r = (some (.int (sB (dCan V W 2 s p))), am_hp n μ' ν) ∧ xR μ' V (dW V W 2 s p) (dU V W U 2 s p) K S Y ∧ frX μ μ' := am_run_wE (k := 92) (d := d + 7) rfl rfl (Nat.le_of_ble_eq_true rfl) [some (.ref 2), some (.int s), some (.int p)] rfl (by
    refine am_q_aload_n rfl rfl ?_
    refine am_q_iconst (v := nI 2) rfl rfl ?_
    refine am_q_iload_n rfl rfl ?_
    refine am_q_iload_n rfl rfl ?_
    refine am_q_call rfl rfl (h) rfl ?_
    refine am_q_ireturn rfl rfl (sB_ok _) ?_
    exact ⟨_, rfl, h1, h2⟩)
  obtain ⟨r, h1, μ', h2, h3⟩ := key
  exact ⟨μ', by rw [h1, h2], h3⟩

def qTake (V : sVal) (W : sWall) (s : Int32) : Int32 := if dCan V W 3 s (-1) = true then sn_place (W.2.1 (ik s)) else -1
/-- StoneSecrets.take(I)I -/
theorem x_take (d : Nat) (s : Int32) (n : Nat) {V : sVal} {W : sWall} {U : List sWall} {K : Nat → Option (sWall × sSeen)} {S : sSeen} {Y : sYear} {μ : am_M2} (ν : am_N2) (hR : xR μ V W U K S Y) (hO : vOk V) (hI : sI (vN V) (vP V) W.1 W.2.1) (ht : W.2.2 < 2 ^ 20) : ∃ (μ' : am_M2), am_run (d + 8) 93 [.ref 2, .int s] (am_hp n μ ν) = some (some (.int (qTake V W s)), am_hp n μ' ν) ∧ xR μ' V (dW V W 3 s (-1)) (dU V W U 3 s (-1)) K S Y ∧ frX μ μ' := by
  obtain ⟨μ1, h, h1, h2⟩ := x_act d 3 (by decide) s (-1) n ν hR hO hI ht
  obtain ⟨hV, hW, hU, hK, hS, hY⟩ := hR
  have h6 := hO.1.1
  have hP8 := hO.1.2.1
  have h8 := sI_8 hO hI
  have key : ∃ r, am_run (d + 8) 93 [.ref 2, .int s] (am_hp n μ ν) = some r ∧ ∃ (μ' : am_M2), r = (some (.int (qTake V W s)), am_hp n μ' ν) ∧ xR μ' V (dW V W 3 s (-1)) (dU V W U 3 s (-1)) K S Y ∧ frX μ μ' := am_run_wE (k := 93) (d := d + 7) rfl rfl (Nat.le_of_ble_eq_true rfl) [some (.ref 2), some (.int s), none] rfl (by
    refine am_q_aload_n rfl rfl ?_
    refine am_q_gr rfl rfl rfl ?_
    refine am_q_iload_n rfl rfl ?_
    refine am_q_call rfl rfl (s_hasSoul _ _ _ _ hV.1) rfl ?_
    refine am_q_if_eqB rfl (fun c_8 => ?_) (fun c_8 => ?_)
    · have hno : dCan V W 3 s (-1) = false := by show sIs (vN V) W.1 s 2 = false; unfold sIs; rw [isN c_8]
      refine am_q_iconst (v := -1) rfl rfl ?_
      refine am_q_istore_n [some _, some _, some _] rfl (Nat.le_of_ble_eq_true rfl) rfl ?_
      refine am_q_aload_n rfl rfl ?_
      refine am_q_iconst (v := nI 3) rfl rfl ?_
      refine am_q_iload_n rfl rfl ?_
      refine am_q_iconst (v := -1) rfl rfl ?_
      refine am_q_call rfl rfl (h) rfl ?_
      refine am_q_if_eqB rfl (fun c_35 => ?_) (fun c_35 => ?_)
      · refine am_q_iconst (v := -1) rfl rfl ?_
        refine am_q_ireturn rfl rfl rfl ?_
        exact ⟨_, by rw [qTake, if_neg (by simp [c_35])], h1, h2⟩
      · refine am_q_iload_n rfl rfl ?_
        refine am_q_goto rfl ?_
        refine am_q_ireturn rfl rfl rfl ?_
        exact absurd c_35 (by simp [hno])
    · obtain ⟨k, hk, rfl, -⟩ := isI c_8 (by omega)
      refine am_q_aload_n rfl rfl ?_
      refine am_q_gr rfl rfl rfl ?_
      refine am_q_gr rfl rfl rfl ?_
      refine am_q_iload_n rfl rfl ?_
      refine am_q_iald rfl rfl (by first | exact am_ix_nI (by omega) (by omega) | rfl) (hW.2.1 _ (by omega)) ?_
      refine am_q_call rfl rfl (s_placeOf _ _ (fun p hp => by have := h8 _ (by omega) p hp; omega) _) rfl ?_
      refine am_q_goto rfl ?_
      refine am_q_istore_n [some _, some _, some _] rfl (Nat.le_of_ble_eq_true rfl) rfl ?_
      refine am_q_aload_n rfl rfl ?_
      refine am_q_iconst (v := nI 3) rfl rfl ?_
      refine am_q_iload_n rfl rfl ?_
      refine am_q_iconst (v := -1) rfl rfl ?_
      refine am_q_call rfl rfl (h) rfl ?_
      refine am_q_if_eqB rfl (fun c_35 => ?_) (fun c_35 => ?_)
      · refine am_q_iconst (v := -1) rfl rfl ?_
        refine am_q_ireturn rfl rfl rfl ?_
        exact ⟨_, by rw [qTake, if_neg (by simp [c_35])], h1, h2⟩
      · refine am_q_iload_n rfl rfl ?_
        refine am_q_goto rfl ?_
        refine am_q_ireturn rfl rfl rfl ?_
        exact ⟨_, by rw [qTake, if_pos c_35, ik_nI (by omega)], h1, h2⟩)
  obtain ⟨r, h1, μ', h2, h3⟩ := key
  exact ⟨μ', by rw [h1, h2], h3⟩

/-- StoneSecrets.week()I -/
theorem x_week (d : Nat) (n : Nat) {V : sVal} {W : sWall} {U : List sWall} {K : Nat → Option (sWall × sSeen)} {S : sSeen} {Y : sYear} {μ : am_M2} (ν : am_N2) (hR : xR μ V W U K S Y) (hO : vOk V) (hI : sI (vN V) (vP V) W.1 W.2.1) (ht : W.2.2 < 2 ^ 20) : ∃ (μ' : am_M2), am_run (d + 6) 94 [.ref 2] (am_hp n μ ν) = some (some (.int (nI (sBits (sFall V W.2.1 W.2.2 (vCold V W.2.2)) (vN V)))), am_hp n μ' ν) ∧ xR μ' V (dDo V W 0 (-1) (-1)) ((W :: U).take 16) K S Y ∧ frX μ μ' := by
  obtain ⟨hV, hW, hU, hK, hS, hY⟩ := hR
  have h6 := hO.1.1
  have hP8 := hO.1.2.1
  have h8 := sI_8 hO hI
  obtain ⟨μ1, hk, hu1, hm1, hr1⟩ := s_keep (d + 3) n ν hU hW
  have hV1 := xVal_rows (fun i a b => hr1 i (by omega)) hV
  have hW1 := xW_rows (fun i a b => hr1 i (by omega)) hW
  obtain ⟨g, a, b, hp, ha, hb⟩ := s_passWeek35 d n (vCold V W.2.2) ν hV1 hO hW1 hI (by omega)
  have key : ∃ r, am_run (d + 6) 94 [.ref 2] (am_hp n μ ν) = some r ∧ ∃ (μ' : am_M2), r = (some (.int (nI (sBits (sFall V W.2.1 W.2.2 (vCold V W.2.2)) (vN V)))), am_hp n μ' ν) ∧ xR μ' V (dDo V W 0 (-1) (-1)) ((W :: U).take 16) K S Y ∧ frX μ μ' := am_run_wE (k := 94) (d := d + 5) rfl rfl (Nat.le_of_ble_eq_true rfl) [some (.ref 2)] rfl (by
    refine am_q_aload_n rfl rfl ?_
    refine am_q_gr rfl rfl rfl ?_
    refine am_q_aload_n rfl rfl ?_
    refine am_q_gr rfl rfl rfl ?_
    refine am_q_call rfl rfl (hk) rfl ?_
    refine am_q_aload_n rfl rfl ?_
    refine am_q_gr rfl rfl rfl ?_
    refine am_q_aload_n rfl rfl ?_
    refine am_q_gr rfl rfl rfl ?_
    refine am_q_aload_n rfl rfl ?_
    refine am_q_gr rfl rfl rfl ?_
    refine am_q_gi rfl rfl rfl hW1.2.2 ?_
    refine am_q_call rfl rfl (s_coldOf _ _ _ (by omega) _ hV1 hO) rfl ?_
    refine am_q_call rfl rfl (hp) rfl ?_
    refine am_q_ireturn rfl rfl rfl ?_
    have hrow : ∀ i, i ≠ 15 → (i < 35 ∨ 38 ≤ i) → am_wl (am_rw μ1 15 g) 35 a b (nI (W.2.2 + 1)) i = μ1 i := fun i h1 h2 => by
      rw [am_wl_row h2]; funext k; unfold am_rw; rw [if_neg h1]
    exact ⟨_, rfl, ⟨xVal_rows (fun i q1 q2 => hrow i (by omega) (by omega)) hV1, xW_wl ha hb, xUndo_rows ⟨by rw [hrow 41 (by omega) (by omega)], by rw [hrow 41 (by omega) (by omega)]⟩ (fun i q1 q2 => hrow i (by omega) (by omega)) hu1, xMk_rows (by rw [hrow 41 (by omega) (by omega)]; exact hm1) (fun i q1 q2 => (hrow i (by omega) (by omega)).trans (hr1 i (by omega))) hK, xSeen_rows (fun i q1 q2 => (hrow i (by omega) (by omega)).trans (hr1 i (by omega))) hS, xYear_rows (fun i q1 q2 => (hrow i (by omega) (by omega)).trans (hr1 i (by omega))) hY⟩, fun i q => (hrow i (by omega) (by omega)).trans (hr1 i (by omega))⟩)
  obtain ⟨r, h1, μ', h2, h3⟩ := key
  exact ⟨μ', by rw [h1, h2], h3⟩

/-- what undo does -/
def uW (W : sWall) (U : List sWall) : sWall := U.headD W
theorem x_undo0 (d : Nat) (n : Nat) {V : sVal} {W : sWall}  {K : Nat → Option (sWall × sSeen)} {S : sSeen} {Y : sYear} {μ : am_M2} (ν : am_N2) (hR : xR μ V W [] K S Y) (hO : vOk V) (hI : sI (vN V) (vP V) W.1 W.2.1) (ht : W.2.2 < 2 ^ 20) : ∃ (u : Unit), am_run (d + 3) 95 [.ref 2] (am_hp n μ ν) = some (some (.int (sB false)), am_hp n μ ν) := by
  obtain ⟨hV, hW, hU, hK, hS, hY⟩ := hR
  have h6 := hO.1.1
  have hP8 := hO.1.2.1
  have h8 := sI_8 hO hI
  obtain ⟨-, h⟩ := s_bringBack0 d n ν hU
  have key : ∃ r, am_run (d + 3) 95 [.ref 2] (am_hp n μ ν) = some r ∧ ∃ (u : Unit), r = (some (.int (sB false)), am_hp n μ ν) := am_run_wE (k := 95) (d := d + 2) rfl rfl (Nat.le_of_ble_eq_true rfl) [some (.ref 2)] rfl (by
    refine am_q_aload_n rfl rfl ?_
    refine am_q_gr rfl rfl rfl ?_
    refine am_q_aload_n rfl rfl ?_
    refine am_q_gr rfl rfl rfl ?_
    refine am_q_call rfl rfl (h) rfl ?_
    refine am_q_ireturn rfl rfl (sB_ok _) ?_
    exact ⟨(), rfl⟩)
  obtain ⟨r, h1, u, h2⟩ := key
  exact ⟨u, by rw [h1, h2]⟩

theorem x_undo1 (d : Nat) (W0 : sWall) (n : Nat) {V : sVal} {W : sWall} {U : List sWall} {K : Nat → Option (sWall × sSeen)} {S : sSeen} {Y : sYear} {μ : am_M2} (ν : am_N2) (hR : xR μ V W (W0 :: U) K S Y) (hO : vOk V) (hI : sI (vN V) (vP V) W.1 W.2.1) (ht : W.2.2 < 2 ^ 20) : ∃ (μ' : am_M2), am_run (d + 3) 95 [.ref 2] (am_hp n μ ν) = some (some (.int (sB true)), am_hp n μ' ν) ∧ xR μ' V W0 U K S Y ∧ frX μ μ' := by
  obtain ⟨hV, hW, hU, hK, hS, hY⟩ := hR
  have h6 := hO.1.1
  have hP8 := hO.1.2.1
  have h8 := sI_8 hO hI
  obtain ⟨μ1, h, hu1, hw1, hm1, hr1⟩ := s_bringBack d n ν hU
  have key : ∃ r, am_run (d + 3) 95 [.ref 2] (am_hp n μ ν) = some r ∧ ∃ (μ' : am_M2), r = (some (.int (sB true)), am_hp n μ' ν) ∧ xR μ' V W0 U K S Y ∧ frX μ μ' := am_run_wE (k := 95) (d := d + 2) rfl rfl (Nat.le_of_ble_eq_true rfl) [some (.ref 2)] rfl (by
    refine am_q_aload_n rfl rfl ?_
    refine am_q_gr rfl rfl rfl ?_
    refine am_q_aload_n rfl rfl ?_
    refine am_q_gr rfl rfl rfl ?_
    refine am_q_call rfl rfl (h) rfl ?_
    refine am_q_ireturn rfl rfl (sB_ok _) ?_
    exact ⟨_, rfl, ⟨xVal_rows (fun i q1 q2 => hr1 i (by omega)) hV, hw1, hu1, xMk_rows hm1 (fun i q1 q2 => hr1 i (by omega)) hK, xSeen_rows (fun i q1 q2 => hr1 i (by omega)) hS, xYear_rows (fun i q1 q2 => hr1 i (by omega)) hY⟩, fun i q => hr1 i (by omega)⟩)
  obtain ⟨r, h1, μ', h2, h3⟩ := key
  exact ⟨μ', by rw [h1, h2], h3⟩

theorem x_undo (d : Nat) (n : Nat) {V : sVal} {W : sWall} {U : List sWall} {K : Nat → Option (sWall × sSeen)} {S : sSeen} {Y : sYear} {μ : am_M2} (ν : am_N2) (hR : xR μ V W U K S Y) (hO : vOk V) (hI : sI (vN V) (vP V) W.1 W.2.1) (ht : W.2.2 < 2 ^ 20) : ∃ μ', am_run (d + 3) 95 [.ref 2] (am_hp n μ ν) = some (some (.int (sB (!U.isEmpty))), am_hp n μ' ν) ∧ xR μ' V (uW W U) U.tail K S Y ∧ frX μ μ' := by
  cases U with
  | nil =>
    obtain ⟨-, h⟩ := x_undo0 d n ν hR hO hI ht
    exact ⟨μ, h, hR, frX_rf _⟩
  | cons W0 U => exact x_undo1 d W0 n ν hR hO hI ht