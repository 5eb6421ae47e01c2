def zLean (V : sVal) (pl : Nat → Option Nat) : Nat → Int := lpF (fun s x => match pl s with
  | none => x
  | some p => x + (vW V s : Int) * ((2 * p + 1 : Nat) - (vP V : Int))) 0
theorem nI_ofInt (n : Nat) : nI n = Int32.ofInt (n : Int) := by rw [lw_nn (by omega)]; rfl
theorem sLean_z (V : sVal) (pl : Nat → Option Nat) : ∀ n, lpF (fun s x => match pl s with
  | none => x
  | some p => x + nI (vW V s) * (nI (2 * p + 1) - nI (vP V))) (nI 0) n = Int32.ofInt (zLean V pl n)
  | 0 => rfl
  | n + 1 => by
    rw [lpF_s, sLean_z V pl n, zLean, lpF_s]
    cases pl n with
    | none => rfl
    | some p =>
      show Int32.ofInt _ + nI (vW V n) * (nI (2 * p + 1) - nI (vP V)) = Int32.ofInt (_ + _)
      rw [nI_ofInt, nI_ofInt (2 * p + 1), nI_ofInt (vP V), ← Int32.ofInt_sub, ← Int32.ofInt_mul, ← Int32.ofInt_add]
theorem zLean_le {V : sVal} {pl : Nat → Option Nat} (hO : vOk V) (hp : pOk V pl) : ∀ n, n ≤ vN V → -(328 * n : Int) ≤ zLean V pl n ∧ zLean V pl n ≤ 328 * n
  | 0, _ => ⟨(show -(328 * ((0 : Nat) : Int)) ≤ 0 by omega), (show (0 : Int) ≤ 328 * ((0 : Nat) : Int) by omega)⟩
  | n + 1, h => by
    have ih := zLean_le hO hp n (by omega)
    have h6 := hO.1.1
    have hP := hO.1.2.1
    rw [zLean, lpF_s]
    rw [zLean] at ih
    cases hq : pl n with
    | none => dsimp only; omega
    | some p =>
      have h1 := (hp n (by omega)).1 p hq
      have hw := vW_le hO (s := n) (by omega)
      have a1 : -(8 : Int) ≤ ((2 * p + 1 : Nat) : Int) - (vP V : Int) := by omega
      have a2 : ((2 * p + 1 : Nat) : Int) - (vP V : Int) ≤ 8 := by omega
      dsimp only
      generalize ((2 * p + 1 : Nat) : Int) - (vP V : Int) = z at a1 a2 ⊢
      have b1 : (vW V n : Int) * z ≤ (vW V n : Int) * 8 := Int.mul_le_mul_of_nonneg_left a2 (by omega)
      have b2 : (vW V n : Int) * (-8) ≤ (vW V n : Int) * z := Int.mul_le_mul_of_nonneg_left a1 (by omega)
      omega
def leanN (V : sVal) (pl : Nat → Option Nat) : Nat := (zLean V pl (vN V)).natAbs
theorem leanN_le {V : sVal} {pl : Nat → Option Nat} (hO : vOk V) (hp : pOk V pl) : leanN V pl ≤ 2000 := by
  have := zLean_le hO hp (vN V) (Nat.le_refl _)
  have h6 := hO.1.1
  unfold leanN
  omega
theorem qLean_N {V : sVal} {pl : Nat → Option Nat} (hO : vOk V) (hp : pOk V pl) : qLean V pl = nI (leanN V pl) := by
  have hb := zLean_le hO hp (vN V) (Nat.le_refl _)
  have h6 := hO.1.1
  have hx : sLean V pl = Int32.ofInt (zLean V pl (vN V)) := sLean_z V pl (vN V)
  have ht : (Int32.ofInt (zLean V pl (vN V))).toInt = zLean V pl (vN V) := Int32.toInt_ofInt_of_le (by omega) (by omega)
  unfold qLean leanN
  rw [hx]
  by_cases h : 0 ≤ zLean V pl (vN V)
  · rw [if_pos (Int32.le_iff_toInt_le.mpr (by rw [ht]; exact h)), lw_nn h]
    congr 1; omega
  · rw [if_neg (fun q => h (by have := Int32.le_iff_toInt_le.mp q; rw [ht] at this; exact this)), ← Int32.ofInt_neg, lw_nn (by omega)]
    congr 1; omega
/-- who is loose, who stands -/
def sLo (V : sVal) (W : sWall) : Nat := sBits (fun s => decide (W.1 s = 1) || decide (W.1 s = 3)) (vN V)
def sSt (V : sVal) (W : sWall) : Nat := sBits (fun s => decide (W.1 s = 2)) (vN V)
def waysOf (V : sVal) (W : sWall) : List (Nat → Option Nat) := waysL V (mvL (sLo V W) 6) (stP W.2.1 (sSt V W))
theorem sI_p {V : sVal} {W : sWall} (hI : sI (vN V) (vP V) W.1 W.2.1) : pOk V W.2.1 := fun s hs => by
  obtain ⟨h1, h2, h3, h4, h5⟩ := hI s hs
  refine ⟨h3, fun hn => ?_, h5⟩
  cases hq : W.2.1 s with
  | none => rfl
  | some p => have := h2.mp (by rw [hq]; rfl); have := h4 hn; omega
theorem stP_ok {V : sVal} {pl : Nat → Option Nat} (hp : pOk V pl) (st : Nat) : pOk V (stP pl st) := fun s hs => by
  obtain ⟨a1, a2, a3⟩ := hp s hs
  unfold stP
  split
  · refine ⟨a1, a2, fun s' hs' hne hnn => ?_⟩
    split
    · exact a3 s' hs' hne hnn
    · exact hnn
  · exact ⟨fun p h => (by cases h), fun _ => rfl, fun s' _ _ h => absurd rfl h⟩
theorem sLo_N {V : sVal} {W : sWall} (s : Nat) (h : (sLo V W).testBit s = true) : s < vN V := by
  rw [sLo, sBits_tb] at h; simp only [Bool.and_eq_true, decide_eq_true_eq] at h; exact h.1
theorem waysL_all {V : sVal} {b st : Nat} {pl : Nat → Option Nat} (hp : pOk V pl) (hb : ∀ s, b.testBit s = true → s < vN V) : ∀ w, w ∈ waysL V (mvL b 6) (stP pl st) → pOk V w :=
  waysL_ok _ _ (fun s hs => hb s ((mvL_mem b 6 s).mp hs).2) (stP_ok hp st)
theorem waysL_262 {V : sVal} (hO : vOk V) (b st : Nat) (pl : Nat → Option Nat) : (waysL V (mvL b 6) (stP pl st)).length ≤ 262144 :=
  Nat.le_trans (waysL_len _ _ hO.1.2.1) (Nat.le_trans (Nat.pow_le_pow_right (by decide) (mvL_len b 6)) (by decide))
/-- StoneSecrets.beginWays()V -/
theorem s_beginWays (d : Nat) (n : Nat) {V : sVal} {W : sWall} {μ : am_M2} (ν : am_N2) (hV : xVal μ V) (hO : vOk V) (hW : xWall μ 35 W) (hI : sI (vN V) (vP V) W.1 W.2.1) (ht : W.2.2 < 2 ^ 20) : ∃ (μ' : am_M2), am_run (d + 3) 116 [.ref 2] (am_hp n μ ν) = some (none, am_hp n μ' ν) ∧ fr μ μ' ∧ msOk V (mvL (sLo V W) 6) ∧ xIt V (mvL (sLo V W) 6) μ' (waysOf V W) := by
  have h6 := hO.1.1
  have hP8 := hO.1.2.1
  have h8 := sI_8 hO hI
  obtain ⟨μ1, hc, hf, hm, hi⟩ := s_wbegin2 d n ν h6 (sI_p hI) (sLo V W) (sSt V W) (sn_64 h6) (sn_64 h6) (sLo_N) (fun s h => by rw [sLo, sBits_tb] at h; rw [sSt, sBits_tb]; simp only [Bool.and_eq_true, Bool.or_eq_true, decide_eq_true_eq] at h; simp; omega) hW.2.1
  have key : ∃ r, am_run (d + 3) 116 [.ref 2] (am_hp n μ ν) = some r ∧ ∃ (μ' : am_M2), r = (none, am_hp n μ' ν) ∧ fr μ μ' ∧ msOk V (mvL (sLo V W) 6) ∧ xIt V (mvL (sLo V W) 6) μ' (waysOf V W) := am_run_wE (k := 116) (d := d + 2) rfl rfl (Nat.le_of_ble_eq_true rfl) [some (.ref 2)] rfl (by
    refine am_q_aload_n rfl rfl ?_
    refine am_q_gr rfl rfl rfl ?_
    refine am_q_aload_n rfl rfl ?_
    refine am_q_gr rfl rfl rfl ?_
    refine am_q_gr rfl rfl rfl ?_
    refine am_q_aload_n rfl rfl ?_
    refine am_q_gr rfl rfl rfl ?_
    refine am_q_call rfl rfl (s_loose _ _ _ hV.1 hW hI) rfl ?_
    refine am_q_aload_n rfl rfl ?_
    refine am_q_gr rfl rfl rfl ?_
    refine am_q_iconst (v := nI 2) rfl rfl ?_
    refine am_q_call rfl rfl (s_who35 _ _ (by omega) _ _ hV.1 hW hI) rfl ?_
    refine am_q_call rfl rfl (hc) rfl ?_
    refine am_q_return rfl rfl ?_
    exact ⟨_, rfl, hf, hm, hi⟩)
  obtain ⟨r, h1, μ', h2, h3⟩ := key
  exact ⟨μ', by rw [h1, h2], h3⟩

theorem x_waysL (d : Nat) (n : Nat) {V : sVal} {ms : List Nat} {μ : am_M2} (ν : am_N2) (hV : xVal μ V) (hO : vOk V) (hm : msOk V ms) : ∀ (ws : List (Nat → Option Nat)) (j : Nat) (μ1 : am_M2) , j + ws.length ≤ 262144 → (∀ w, w ∈ ws → pOk V w) → fr μ μ1 ∧ xIt V ms μ1 ws → am_w (d + 5) (Option.some FieldType.int) am_g115 6 [some (.ref 2), some (.int (nI j))] [] (am_hp n μ1 ν) (fun y => ∃ (μ' : am_M2), y = (some (.int (nI (j + ws.length))), am_hp n μ' ν) ∧ fr μ μ') := by
  intro ws
  induction ws with
  | nil =>
    intro j μ1  hj hall hit
    have hV1 := xVal_fr hit.1 hV
    obtain ⟨μ2, hc, hf2⟩ := s_nextN d n ν hV1 hO hm hit.2
    have hf := fr_tr hit.1 hf2
    have hV2 := xVal_fr hf2 hV1
    have hjl : j ≤ 262144 := by simpa using hj
    refine am_q_iload_n rfl rfl ?_
    refine am_q_ldc (v := nI 1000000) rfl rfl ?_
    refine am_q_igeN rfl (by omega) (by omega) (fun c_9 => absurd c_9 (by omega)) (fun c_9 => ?_)
    refine am_q_aload_n rfl rfl ?_
    refine am_q_gr rfl rfl rfl ?_
    refine am_q_call rfl rfl (hc) rfl ?_
    refine am_q_if_eqB rfl (fun c_19 => ?_) (fun c_19 => by simp at c_19)
    refine am_q_iload_n rfl rfl ?_
    refine am_q_ireturn rfl rfl rfl ?_
    exact ⟨_, rfl, hf⟩
  | cons pl vs ih =>
    intro j μ1  hj hall hit
    have hV1 := xVal_fr hit.1 hV
    obtain ⟨μ2, hc, hf2, hi2, hs2⟩ := s_nextC d n ν hV1 hO hm hit.2
    have hf := fr_tr hit.1 hf2
    have hV2 := xVal_fr hf2 hV1
    have hpk := hall pl List.mem_cons_self
    have h8w := pOk_8 hO hpk
    rw [List.length_cons] at hj
    have hall2 : ∀ w, w ∈ vs → pOk V w := fun w hw => hall w (List.mem_cons_of_mem _ hw)
    refine am_q_iload_n rfl rfl ?_
    refine am_q_ldc (v := nI 1000000) rfl rfl ?_
    refine am_q_igeN rfl (by omega) (by omega) (fun c_9 => absurd c_9 (by omega)) (fun c_9 => ?_)
    refine am_q_aload_n rfl rfl ?_
    refine am_q_gr rfl rfl rfl ?_
    refine am_q_call rfl rfl (hc) rfl ?_
    refine am_q_if_eqB rfl (fun c_19 => by simp at c_19) (fun c_19 => ?_)
    refine am_q_iinc [some _, some _] rfl (c := nI 1) rfl rfl (Nat.le_of_ble_eq_true rfl) (nI_add _ _) rfl ?_
    refine am_q_goto rfl ?_
    have e := ih (j + 1) μ2 (by omega) hall2 ⟨hf, hi2⟩
    rw [List.length_cons, show j + (vs.length + 1) = j + 1 + vs.length by omega]
    exact e

/-- StoneSecrets.ways()I -/
theorem x_ways (d : Nat) (n : Nat) {V : sVal} {W : sWall} {μ : am_M2} (ν : am_N2) (hV : xVal μ V) (hO : vOk V) (hW : xWall μ 35 W) (hI : sI (vN V) (vP V) W.1 W.2.1) (ht : W.2.2 < 2 ^ 20) : ∃ (μ' : am_M2), am_run (d + 6) 115 [.ref 2] (am_hp n μ ν) = some (some (.int (nI (waysOf V W).length)), am_hp n μ' ν) ∧ fr μ μ' := by
  obtain ⟨μ1, hb, hf1, hm, hi⟩ := s_beginWays (d + 2) n ν hV hO hW hI ht
  have hall := waysL_all (st := sSt V W) (sI_p hI) (sLo_N (V := V) (W := W))
  have hlen := waysL_262 hO (sLo V W) (sSt V W) W.2.1
  have key : ∃ r, am_run (d + 6) 115 [.ref 2] (am_hp n μ ν) = some r ∧ ∃ (μ' : am_M2), r = (some (.int (nI (waysOf V W).length)), am_hp n μ' ν) ∧ fr μ μ' := am_run_wE (k := 115) (d := d + 5) rfl rfl (Nat.le_of_ble_eq_true rfl) [some (.ref 2), none] rfl (by
    refine am_q_aload_n rfl rfl ?_
    refine am_q_call rfl rfl (hb) rfl ?_
    refine am_q_iconst (v := nI 0) rfl rfl ?_
    refine am_q_istore_n [some _, some _] rfl (Nat.le_of_ble_eq_true rfl) rfl ?_
    have e := x_waysL d n ν hV hO hm (waysOf V W) 0 μ1 (by rw [Nat.zero_add]; exact hlen) hall ⟨hf1, hi⟩
    rw [Nat.zero_add] at e
    exact e)
  obtain ⟨r, h1, μ', h2, h3⟩ := key
  exact ⟨μ', by rw [h1, h2], h3⟩
