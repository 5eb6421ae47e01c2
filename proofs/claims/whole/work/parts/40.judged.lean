theorem dDo_I {V : sVal} {T : sWall} {e : Nat} {s p : Int32} (hO : vOk V) (he : e < 4) (hI : sI (vN V) (vP V) T.1 T.2.1) (hc : dCan V T e s p = true) : sI (vN V) (vP V) (dDo V T e s p).1 (dDo V T e s p).2.1 := by
  have h6 := hO.1.1
  have hP := hO.1.2.1
  have key : ∀ k x q, k < vN V → x ≤ 4 → (q ≠ none ↔ x = 2) → (∀ y, q = some y → y < vP V ∧ ∀ s, s < 6 → T.2.1 s ≠ some y) → sI (vN V) (vP V) (fup T.1 k x) (fup T.2.1 k q) := by
    intro k x q hk hx hq hy s hs
    obtain ⟨h1, h2, h3, h4, h5⟩ := hI s hs
    unfold fup
    by_cases z : s = k
    · subst z
      simp only [if_true]
      refine ⟨hx, ?_, fun y e => (hy y e).1, fun hn => by omega, fun s' hs' hne hnn => ?_⟩
      · cases q with
        | none => exact ⟨fun q => (by cases q), fun e => absurd rfl (hq.mpr e)⟩
        | some y => exact ⟨fun _ => hq.mp (fun e => by cases e), fun _ => rfl⟩
      · rw [if_neg (fun e => hne e.symm)]
        cases q with
        | none => exact absurd rfl hnn
        | some y => exact fun e => (hy y rfl).2 s' hs' e.symm
    · simp only [if_neg z]
      refine ⟨h1, h2, h3, h4, fun s' hs' hne hnn => ?_⟩
      by_cases z' : s' = k
      · subst z'
        rw [if_pos rfl]
        cases q with
        | none => exact hnn
        | some y => exact (hy y rfl).2 s hs
      · rw [if_neg z']; exact h5 s' hs' hne hnn
  rcases (show e = 0 ∨ e = 1 ∨ e = 2 ∨ e = 3 by omega) with rfl | rfl | rfl | rfl
  · exact wk_I hI
  · obtain ⟨k, hk, -⟩ := sIs_some (show sIs (vN V) T.1 s 0 = true from hc)
    obtain ⟨hkN, -⟩ := sn_ix_in hk (by omega)
    rw [dDo1 hk (Or.inl rfl)]
    exact key k 1 none hkN (by decide) ⟨fun h => absurd rfl h, fun h => (by cases h)⟩ (fun y h => by cases h)
  · obtain ⟨k, q, hk, hq⟩ := dCan2 hc
    obtain ⟨hkN, -⟩ := sn_ix_in hk (by omega)
    obtain ⟨hqP, -⟩ := sn_ix_in hq (by omega)
    have hm : dMay V T s p = true := ((Bool.and_eq_true _ _).mp (show ((sIs (vN V) T.1 s 1 || sIs (vN V) T.1 s 3) && dMay V T s p) = true from hc)).2
    rw [dMay_yes hk hq, sOpen, sBits_tb] at hm
    simp only [sMay, Bool.and_eq_true, Bool.not_eq_true', decide_eq_true_eq] at hm
    rw [dDo2 hk hq]
    refine key k 2 (some q) hkN (by decide) ⟨fun _ => rfl, fun _ h => (by cases h)⟩ (fun y h => ?_)
    cases h
    refine ⟨hqP, fun s' hs' e => ?_⟩
    have := (sTk_tb T.2.1 q).mpr ⟨s', hs', e⟩
    rw [hm.2.1] at this; cases this
  · obtain ⟨k, hk, -⟩ := sIs_some (show sIs (vN V) T.1 s 2 = true from hc)
    obtain ⟨hkN, -⟩ := sn_ix_in hk (by omega)
    rw [dDo1 hk (Or.inr rfl)]
    exact key k 1 none hkN (by decide) ⟨fun h => absurd rfl h, fun h => (by cases h)⟩ (fun y h => by cases h)
theorem dW_I {V : sVal} {T : sWall} {e : Nat} {s p : Int32} (hO : vOk V) (he : e < 4) (hI : sI (vN V) (vP V) T.1 T.2.1) : sI (vN V) (vP V) (dW V T e s p).1 (dW V T e s p).2.1 := by
  unfold dW
  by_cases hc : dCan V T e s p = true
  · rw [if_pos hc]; exact dDo_I hO he hI hc
  · rw [if_neg hc]; exact hI
theorem dDo_t {V : sVal} {T : sWall} {e : Nat} {s p : Int32} : (dDo V T e s p).2.2 ≤ T.2.2 + 1 := by
  unfold dDo
  split
  · exact Nat.le_refl _
  · split <;> exact Nat.le_succ _
  · split <;> exact Nat.le_succ _
theorem dW_t {V : sVal} {T : sWall} {e : Nat} {s p : Int32} : (dW V T e s p).2.2 ≤ T.2.2 + 1 := by
  unfold dW
  split
  · exact dDo_t
  · exact Nat.le_succ _
/-- the wall as it begins -/
def w0 : sWall := (fun _ => 0, fun _ => none, 0)
theorem w0_I (V : sVal) : sI (vN V) (vP V) w0.1 w0.2.1 := fun s hs => ⟨Nat.zero_le _, ⟨fun h => (by cases h), fun h => (by cases h)⟩, fun p h => (by cases h), fun _ => rfl, fun s' _ _ h => absurd rfl h⟩
theorem s_att0 (d : Nat) (e : Nat) (he : e < 4) (s p : Int32) (n : Nat) {V : sVal} {T : sWall} {μ : am_M2} (ν : am_N2) (hV : xVal μ V) (hO : vOk V) (hT : xWall μ 38 T) (hI : sI (vN V) (vP V) T.1 T.2.1) (ht : T.2.2 < 2 ^ 30) (hc : dCan V T e s p = false) : ∃ (u : Unit), am_run (d + 5) 98 [.ref 38, .int (nI e), .int s, .int p] (am_hp n μ ν) = some (some (.int (sB false)), am_hp n μ ν) := by
  have key : ∃ r, am_run (d + 5) 98 [.ref 38, .int (nI e), .int s, .int p] (am_hp n μ ν) = some r ∧ ∃ (u : Unit), r = (some (.int (sB false)), am_hp n μ ν) := am_run_wE (k := 98) (d := d + 4) rfl rfl (Nat.le_of_ble_eq_true rfl) [some (.ref 38), some (.int (nI e)), some (.int s), some (.int p), none] rfl (by
    refine am_q_aload_n rfl rfl ?_
    refine am_q_iload_n rfl rfl ?_
    refine am_q_iload_n rfl rfl ?_
    refine am_q_iload_n rfl rfl ?_
    refine am_q_call rfl rfl (s_allows38 _ e he s p n ν hV hO hT hI) rfl ?_
    rw [hc]
    refine am_q_istore [some _, some _, some _, some _, some _] rfl (Nat.le_of_ble_eq_true rfl) rfl ?_
    refine am_q_iload rfl rfl ?_
    refine am_q_if_eqB rfl (fun c_11 => ?_) (fun c_11 => by simp at c_11)
    refine am_q_iload rfl rfl ?_
    refine am_q_ireturn rfl rfl (sB_ok _) ?_
    exact ⟨(), rfl⟩)
  obtain ⟨r, h1, u, h2⟩ := key
  exact ⟨u, by rw [h1, h2]⟩

theorem s_att1 (d : Nat) (e : Nat) (he : e < 4) (s p : Int32) (n : Nat) {V : sVal} {T : sWall} {μ : am_M2} (ν : am_N2) (hV : xVal μ V) (hO : vOk V) (hT : xWall μ 38 T) (hI : sI (vN V) (vP V) T.1 T.2.1) (ht : T.2.2 < 2 ^ 30) (hc : dCan V T e s p = true) : ∃ (μ' : am_M2), am_run (d + 7) 98 [.ref 38, .int (nI e), .int s, .int p] (am_hp n μ ν) = some (some (.int (sB true)), am_hp n μ' ν) ∧ fr μ μ' ∧ xWall μ' 38 (dDo V T e s p) := by
  obtain ⟨g, a, b, hp, ha, hb⟩ := s_perform38 d e he s p n ν hV hO hT hI ht hc
  have key : ∃ r, am_run (d + 7) 98 [.ref 38, .int (nI e), .int s, .int p] (am_hp n μ ν) = some r ∧ ∃ (μ' : am_M2), r = (some (.int (sB true)), am_hp n μ' ν) ∧ fr μ μ' ∧ xWall μ' 38 (dDo V T e s p) := am_run_wE (k := 98) (d := d + 6) rfl rfl (Nat.le_of_ble_eq_true rfl) [some (.ref 38), some (.int (nI e)), some (.int s), some (.int p), none] rfl (by
    refine am_q_aload_n rfl rfl ?_
    refine am_q_iload_n rfl rfl ?_
    refine am_q_iload_n rfl rfl ?_
    refine am_q_iload_n rfl rfl ?_
    refine am_q_call rfl rfl (s_allows38 _ e he s p n ν hV hO hT hI) rfl ?_
    rw [hc]
    refine am_q_istore [some _, some _, some _, some _, some _] rfl (Nat.le_of_ble_eq_true rfl) rfl ?_
    refine am_q_iload rfl rfl ?_
    refine am_q_if_eqB rfl (fun c_11 => by simp at c_11) (fun c_11 => ?_)
    refine am_q_aload_n rfl rfl ?_
    refine am_q_iload_n rfl rfl ?_
    refine am_q_iload_n rfl rfl ?_
    refine am_q_iload_n rfl rfl ?_
    refine am_q_call rfl rfl (hp) rfl ?_
    refine am_q_iload rfl rfl ?_
    refine am_q_ireturn rfl rfl (sB_ok _) ?_
    exact ⟨_, rfl, fr_tr (fr_15 μ g) fr_wl, xW_wl ha hb⟩)
  obtain ⟨r, h1, μ', h2, h3⟩ := key
  exact ⟨μ', by rw [h1, h2], h3⟩

theorem s_att (d e : Nat) (he : e < 4) (s p : Int32) (n : Nat) {V : sVal} {T : sWall} {μ : am_M2} (ν : am_N2) (hV : xVal μ V) (hO : vOk V) (hT : xWall μ 38 T) (hI : sI (vN V) (vP V) T.1 T.2.1) (ht : T.2.2 < 2 ^ 30) : ∃ μ', am_run (d + 7) 98 [.ref 38, .int (nI e), .int s, .int p] (am_hp n μ ν) = some (some (.int (sB (dCan V T e s p))), am_hp n μ' ν) ∧ fr μ μ' ∧ xWall μ' 38 (dW V T e s p) := by
  cases hc : dCan V T e s p with
  | false =>
    obtain ⟨-, h⟩ := s_att0 (d + 2) e he s p n ν hV hO hT hI ht hc
    exact ⟨μ, h, fr_rf _, by rw [dW, if_neg (by simp [hc])]; exact hT⟩
  | true =>
    obtain ⟨μ', h, h1, h2⟩ := s_att1 d e he s p n ν hV hO hT hI ht hc
    exact ⟨μ', h, h1, by rw [dW, if_pos hc]; exact h2⟩
theorem s_pw38 (d c : Nat) (n : Nat) {V : sVal} {T : sWall} {μ : am_M2} (ν : am_N2) (hV : xVal μ V) (hO : vOk V) (hT : xWall μ 38 T) (hI : sI (vN V) (vP V) T.1 T.2.1) (ht : T.2.2 < 2 ^ 30) : ∃ μ', am_run (d + 5) 85 [.ref 38, .int (nI c)] (am_hp n μ ν) = some (some (.int (nI (sBits (sFall V T.2.1 T.2.2 c) (vN V)))), am_hp n μ' ν) ∧ fr μ μ' ∧ xWall μ' 38 (wkSt V T.1 T.2.1 T.2.2 c, wkPl V T.2.1 T.2.2 c, T.2.2 + 1) := by
  obtain ⟨g, a, b, h, ha, hb⟩ := s_passWeek38 d n c ν hV hO hT hI ht
  exact ⟨_, h, fr_tr (fr_15 μ g) fr_wl, xW_wl ha hb⟩
theorem s_tcopy (d n : Nat) {μ : am_M2} (ν : am_N2) {W : sWall} (hW : xWall μ 35 W) : ∃ μ', am_run (d + 1) 81 [.ref 38, .ref 35] (am_hp n μ ν) = some (none, am_hp n μ' ν) ∧ fr μ μ' ∧ xWall μ' 38 W := by
  obtain ⟨a, b, h, ha, hb⟩ := s_wcopyX d n 38 35 ν (isWl_38 n) (isWl_35 n) (by decide) hW
  exact ⟨_, h, fr_wl, xW_wl ha hb⟩
/-- StoneSecrets$Wall.begin()V -/
theorem s_begin35 (d : Nat) (n : Nat) {μ : am_M2} (ν : am_N2) : ∃ (μ' : am_M2), am_run (d + 2) 56 [.ref 35] (am_hp n μ ν) = some (none, am_hp n μ' ν) ∧ xWall μ' 35 w0 ∧ ∀ i, i < 35 ∨ 38 ≤ i → μ' i = μ i := by
  have key : ∃ r, am_run (d + 2) 56 [.ref 35] (am_hp n μ ν) = some r ∧ ∃ (μ' : am_M2), r = (none, am_hp n μ' ν) ∧ xWall μ' 35 w0 ∧ ∀ i, i < 35 ∨ 38 ≤ i → μ' i = μ i := am_run_wE (k := 56) (d := d + 1) rfl rfl (Nat.le_of_ble_eq_true rfl) [some (.ref 35)] rfl (by
    refine am_q_aload_n rfl rfl ?_
    refine am_q_iconst (v := nI 0) rfl rfl ?_
    refine am_q_pi rfl rfl rfl (Or.inl rfl) ?_
    refine am_q_aload_n rfl rfl ?_
    refine am_q_gr rfl rfl rfl ?_
    refine am_q_iconst (v := nI 0) rfl rfl ?_
    refine am_q_call rfl rfl (s_fill _ n 36 6 (nI 0) _ ν _ rfl (by decide)) rfl ?_
    refine am_q_aload_n rfl rfl ?_
    refine am_q_gr rfl rfl rfl ?_
    refine am_q_iconst (v := nI 0) rfl rfl ?_
    refine am_q_call rfl rfl (s_fill _ n 37 6 (nI 0) _ ν _ rfl (by decide)) rfl ?_
    refine am_q_return rfl rfl ?_
    refine ⟨_, rfl, ⟨fun s hs => ?_, fun s hs => ?_, ?_⟩, fun i hi => ?_⟩
    · simp [am_fl, hs, w0]
    · simp [am_fl, hs, w0, sn_spot]
    · simp [am_fl, am_up, w0]
    · funext k; simp [am_fl, am_up, show ¬ i = 35 by omega, show ¬ i = 36 by omega, show ¬ i = 37 by omega])
  obtain ⟨r, h1, μ', h2, h3⟩ := key
  exact ⟨μ', by rw [h1, h2], h3⟩

/-- StoneSecrets$Wall.begin()V -/
theorem s_begin38 (d : Nat) (n : Nat) {μ : am_M2} (ν : am_N2) : ∃ (μ' : am_M2), am_run (d + 2) 56 [.ref 38] (am_hp n μ ν) = some (none, am_hp n μ' ν) ∧ xWall μ' 38 w0 ∧ ∀ i, i < 38 ∨ 41 ≤ i → μ' i = μ i := by
  have key : ∃ r, am_run (d + 2) 56 [.ref 38] (am_hp n μ ν) = some r ∧ ∃ (μ' : am_M2), r = (none, am_hp n μ' ν) ∧ xWall μ' 38 w0 ∧ ∀ i, i < 38 ∨ 41 ≤ i → μ' i = μ i := am_run_wE (k := 56) (d := d + 1) rfl rfl (Nat.le_of_ble_eq_true rfl) [some (.ref 38)] rfl (by
    refine am_q_aload_n rfl rfl ?_
    refine am_q_iconst (v := nI 0) rfl rfl ?_
    refine am_q_pi rfl rfl rfl (Or.inl rfl) ?_
    refine am_q_aload_n rfl rfl ?_
    refine am_q_gr rfl rfl rfl ?_
    refine am_q_iconst (v := nI 0) rfl rfl ?_
    refine am_q_call rfl rfl (s_fill _ n 39 6 (nI 0) _ ν _ rfl (by decide)) rfl ?_
    refine am_q_aload_n rfl rfl ?_
    refine am_q_gr rfl rfl rfl ?_
    refine am_q_iconst (v := nI 0) rfl rfl ?_
    refine am_q_call rfl rfl (s_fill _ n 40 6 (nI 0) _ ν _ rfl (by decide)) rfl ?_
    refine am_q_return rfl rfl ?_
    refine ⟨_, rfl, ⟨fun s hs => ?_, fun s hs => ?_, ?_⟩, fun i hi => ?_⟩
    · simp [am_fl, hs, w0]
    · simp [am_fl, hs, w0, sn_spot]
    · simp [am_fl, am_up, w0]
    · funext k; simp [am_fl, am_up, show ¬ i = 38 by omega, show ¬ i = 39 by omega, show ¬ i = 40 by omega])
  obtain ⟨r, h1, μ', h2, h3⟩ := key
  exact ⟨μ', by rw [h1, h2], h3⟩

def sOut (V : sVal) (T : sWall) : Bool := decide (sBits (fun s => decide (T.1 s = 4)) (vN V) ≠ 0)
def jS (V : sVal) (Y : sYear) : Nat → sWall × Option Nat × Option Nat := lpF (fun i x => (dW V x.1 (Y.2.1 i) (ySo Y i) (yPl Y i), if dCan V x.1 (Y.2.1 i) (ySo Y i) (yPl Y i) = false ∧ x.2.1 = none then some i else x.2.1, if x.2.2 = none ∧ sOut V (dW V x.1 (Y.2.1 i) (ySo Y i) (yPl Y i)) = true then some i else x.2.2)) (w0, none, none)
def yOk (V : sVal) (Y : sYear) : Prop := Y.1 ≤ 40 ∧ ∀ i, i < Y.1 → Y.2.1 i < 4 ∧ (Y.2.1 i ≠ 0 → Y.2.2.1 i < vN V) ∧ (Y.2.1 i = 2 → Y.2.2.2 i < vP V)
theorem jS_I {V : sVal} {Y : sYear} (hO : vOk V) (hY : yOk V Y) : ∀ n, n ≤ Y.1 → sI (vN V) (vP V) (jS V Y n).1.1 (jS V Y n).1.2.1 ∧ (jS V Y n).1.2.2 ≤ n ∧ (∀ k, (jS V Y n).2.1 = some k → k < n) ∧ ∀ k, (jS V Y n).2.2 = some k → k < n
  | 0, _ => ⟨w0_I V, Nat.le_refl _, fun k h => (by cases h), fun k h => (by cases h)⟩
  | n + 1, h => by
    obtain ⟨h1, h2, h3, h4⟩ := jS_I hO hY n (by omega)
    have hd := (hY.2 n (by omega)).1
    rw [jS, lpF_s]
    rw [jS] at h1 h2 h3 h4
    refine ⟨dW_I hO hd h1, Nat.le_trans dW_t (by omega), fun k e => ?_, fun k e => ?_⟩
    · dsimp only at e
      split at e
      · cases e; omega
      · have := h3 k e; omega
    · dsimp only at e
      split at e
      · cases e; omega
      · have := h4 k e; omega
def qJudged (V : sVal) (Y : sYear) (w : Int32) : Int32 := if rIn w 0 2 = true then (if w = nI 2 then nI (sn_bc (sBits (fun s => decide ((jS V Y Y.1).1.1 s = 2)) (vN V))) else if w = nI 0 then sn_place (jS V Y Y.1).2.1 else sn_place (jS V Y Y.1).2.2) else -2
theorem x_judgedL (d w : Nat) (hw : w ≤ 2) (n : Nat) {V : sVal} {W : sWall} {U : List sWall} {K : Nat → Option (sWall × sSeen)} {S : sSeen} {Y : sYear} {μ : am_M2} (ν : am_N2) (hR : xR μ V W U K S Y) (hO : vOk V) (hI : sI (vN V) (vP V) W.1 W.2.1) (ht : W.2.2 < 2 ^ 20) (hYo : yOk V Y) : ∀ (m j : Nat) (μ1 : am_M2) (o5 : Option Value), j + m = Y.1 → fr μ μ1 ∧ xWall μ1 38 (jS V Y j).1 → am_w (d + 7) (Option.some FieldType.int) am_g97 26 [some (.ref 2), some (.int (nI w)), some (.int (sn_place (jS V Y j).2.1)), some (.int (sn_place (jS V Y j).2.2)), some (.int (nI j)), o5] [] (am_hp n μ1 ν) (fun y => ∃ (μ' : am_M2), y = (some (.int (qJudged V Y (nI w))), am_hp n μ' ν) ∧ fr μ μ') := by
  intro m
  induction m with
  | zero =>
    intro j μ1 o5 hj hinv
    obtain ⟨hV, hW, hU, hK, hS, hY⟩ := hR
    have h6 := hO.1.1
    have hP8 := hO.1.2.1
    have h8 := sI_8 hO hI
    have hV1 := xVal_fr hinv.1 hV
    have hY1 := xYear_rows (fun i a b => funext fun k => hinv.1 i k (by omega)) hY
    have hJ := jS_I hO hYo j (by omega)
    have h40 := hYo.1
    refine am_q_iload rfl rfl ?_
    refine am_q_aload_n rfl rfl ?_
    refine am_q_gr rfl rfl rfl ?_
    refine am_q_gi rfl rfl rfl hY1.1 ?_
    refine am_q_igeN rfl (by omega) (by omega) (fun c_35 => ?_) (fun c_35 => absurd c_35 (by omega))
    refine am_q_iload_n rfl rfl ?_
    refine am_q_iconst (v := nI 2) rfl rfl ?_
    refine am_q_ineN rfl (by omega) (by omega) (fun c_117 => ?_) (fun c_117 => ?_)
    · refine am_q_iload_n rfl rfl ?_
      refine am_q_zneN rfl (by omega) (fun c_133 => ?_) (fun c_133 => ?_)
      · refine am_q_iload_n rfl rfl ?_
        refine am_q_ireturn rfl rfl rfl ?_
        exact ⟨_, by rw [qJudged, if_pos (by rw [rIn_nI (by omega) (by omega) (by omega)]; simp; omega), if_neg (fun q => c_117 ((nI_eq (by omega) (by omega)).mp q)), if_neg (fun q => c_133 ((nI_eq (by omega) (by omega)).mp q)), ← show j = Y.1 by omega], hinv.1⟩
      · refine am_q_iload_n rfl rfl ?_
        refine am_q_goto rfl ?_
        refine am_q_ireturn rfl rfl rfl ?_
        exact ⟨_, by rw [qJudged, if_pos (by rw [rIn_nI (by omega) (by omega) (by omega)]; simp; omega), if_neg (fun q => c_117 ((nI_eq (by omega) (by omega)).mp q)), if_pos (by rw [c_133]), ← show j = Y.1 by omega], hinv.1⟩
    · subst c_117
      refine am_q_aload_n rfl rfl ?_
      refine am_q_gr rfl rfl rfl ?_
      refine am_q_iconst (v := nI 2) rfl rfl ?_
      refine am_q_call rfl rfl (s_who38 _ 2 (by omega) _ _ hV1.1 hinv.2 hJ.1) rfl ?_
      refine am_q_call rfl rfl (s_bitCount _ _ (Nat.lt_trans (sn_64 h6) (by decide)) _) rfl ?_
      refine am_q_ireturn rfl rfl rfl ?_
      exact ⟨_, by rw [qJudged, if_pos (by rw [rIn_nI (by omega) (by omega) (by omega)]; simp), if_pos rfl, ← show j = Y.1 by omega], hinv.1⟩
  | succ m ih =>
    intro j μ1 o5 hj hinv
    obtain ⟨hV, hW, hU, hK, hS, hY⟩ := hR
    have h6 := hO.1.1
    have hP8 := hO.1.2.1
    have h8 := sI_8 hO hI
    have hV1 := xVal_fr hinv.1 hV
    have hY1 := xYear_rows (fun i a b => funext fun k => hinv.1 i k (by omega)) hY
    have hJ := jS_I hO hYo j (by omega)
    have h40 := hYo.1
    have hJ2 := jS_I hO hYo (j + 1) (by omega)
    obtain ⟨μ2, hc, hf2, hT2⟩ := s_att d (Y.2.1 j) (hYo.2 j (by omega)).1 (ySo Y j) (yPl Y j) n ν hV1 hO hinv.2 hJ.1 (by omega)
    have hV2 := xVal_fr hf2 hV1
    have eT : (jS V Y (j + 1)).1 = dW V (jS V Y j).1 (Y.2.1 j) (ySo Y j) (yPl Y j) := rfl
    have eA : (jS V Y (j + 1)).2.1 = if dCan V (jS V Y j).1 (Y.2.1 j) (ySo Y j) (yPl Y j) = false ∧ (jS V Y j).2.1 = none then some j else (jS V Y j).2.1 := rfl
    have eB : (jS V Y (j + 1)).2.2 = if (jS V Y j).2.2 = none ∧ sOut V (jS V Y (j + 1)).1 = true then some j else (jS V Y j).2.2 := rfl
    rw [← eT] at hT2
    refine am_q_iload rfl rfl ?_
    refine am_q_aload_n rfl rfl ?_
    refine am_q_gr rfl rfl rfl ?_
    refine am_q_gi rfl rfl rfl hY1.1 ?_
    refine am_q_igeN rfl (by omega) (by omega) (fun c_35 => absurd c_35 (by omega)) (fun c_35 => ?_)
    refine am_q_aload_n rfl rfl ?_
    refine am_q_gr rfl rfl rfl ?_
    refine am_q_aload_n rfl rfl ?_
    refine am_q_gr rfl rfl rfl ?_
    refine am_q_gr rfl rfl rfl ?_
    refine am_q_iload rfl rfl ?_
    refine am_q_iald rfl rfl (by first | exact am_ix_nI (by omega) (by omega) | rfl) (hY1.2.2 _ (by omega)).1 ?_
    refine am_q_aload_n rfl rfl ?_
    refine am_q_gr rfl rfl rfl ?_
    refine am_q_gr rfl rfl rfl ?_
    refine am_q_iload rfl rfl ?_
    refine am_q_iald rfl rfl (by first | exact am_ix_nI (by omega) (by omega) | rfl) (hY1.2.2 _ (by omega)).2.1 ?_
    refine am_q_aload_n rfl rfl ?_
    refine am_q_gr rfl rfl rfl ?_
    refine am_q_gr rfl rfl rfl ?_
    refine am_q_iload rfl rfl ?_
    refine am_q_iald rfl rfl (by first | exact am_ix_nI (by omega) (by omega) | rfl) (hY1.2.2 _ (by omega)).2.2 ?_
    refine am_q_call rfl rfl (hc) rfl ?_
    refine am_q_istore [some _, some _, some _, some _, some _, some _] rfl (Nat.le_of_ble_eq_true rfl) rfl ?_
    refine am_q_iload rfl rfl ?_
    refine am_q_if_neB rfl (fun c_79 => ?_) (fun c_79 => ?_)
    · rw [if_neg (by simp [c_79])] at eA
      refine am_q_iload_n rfl rfl ?_
      refine am_q_iconst (v := -1) rfl rfl ?_
      refine am_q_icmp_ne rfl (fun c_92 => ?_) (fun c_92 => ?_)
      · rw [if_neg (fun z => c_92 (by rw [z.1]; rfl))] at eB
        refine am_q_iinc [some _, some _, some _, some _, some _, some _] rfl (c := nI 1) rfl rfl (Nat.le_of_ble_eq_true rfl) (nI_add _ _) rfl ?_
        refine am_q_goto rfl ?_
        (have e := fun o => ih (j + 1) μ2 o (by omega) ⟨fr_tr hinv.1 hf2, hT2⟩; simp only [eA, eB] at e; exact e _)
      · have hz := pl_none c_92 (fun k hk => by have := hJ.2.2.2 k hk; omega)
        refine am_q_aload_n rfl rfl ?_
        refine am_q_gr rfl rfl rfl ?_
        refine am_q_iconst (v := nI 4) rfl rfl ?_
        refine am_q_call rfl rfl (s_who38 _ 4 (by omega) _ _ hV2.1 hT2 hJ2.1) rfl ?_
        refine am_q_zeqN rfl (Nat.lt_trans (sn_64 h6) (by decide)) (fun c_103 => ?_) (fun c_103 => ?_)
        · rw [if_neg (fun z => by have := of_decide_eq_true z.2; exact this c_103)] at eB
          refine am_q_iinc [some _, some _, some _, some _, some _, some _] rfl (c := nI 1) rfl rfl (Nat.le_of_ble_eq_true rfl) (nI_add _ _) rfl ?_
          refine am_q_goto rfl ?_
          (have e := fun o => ih (j + 1) μ2 o (by omega) ⟨fr_tr hinv.1 hf2, hT2⟩; simp only [eA, eB] at e; exact e _)
        · rw [if_pos ⟨hz, decide_eq_true c_103⟩] at eB
          refine am_q_iload rfl rfl ?_
          refine am_q_istore_n [some _, some _, some _, some _, some _, some _] rfl (Nat.le_of_ble_eq_true rfl) rfl ?_
          refine am_q_iinc [some _, some _, some _, some _, some _, some _] rfl (c := nI 1) rfl rfl (Nat.le_of_ble_eq_true rfl) (nI_add _ _) rfl ?_
          refine am_q_goto rfl ?_
          (have e := fun o => ih (j + 1) μ2 o (by omega) ⟨fr_tr hinv.1 hf2, hT2⟩; simp only [eA, eB] at e; exact e _)
    · refine am_q_iload_n rfl rfl ?_
      refine am_q_iconst (v := -1) rfl rfl ?_
      refine am_q_icmp_ne rfl (fun c_84 => ?_) (fun c_84 => ?_)
      · rw [if_neg (fun z => c_84 (by rw [z.2]; rfl))] at eA
        refine am_q_iload_n rfl rfl ?_
        refine am_q_iconst (v := -1) rfl rfl ?_
        refine am_q_icmp_ne rfl (fun c_92 => ?_) (fun c_92 => ?_)
        · rw [if_neg (fun z => c_92 (by rw [z.1]; rfl))] at eB
          refine am_q_iinc [some _, some _, some _, some _, some _, some _] rfl (c := nI 1) rfl rfl (Nat.le_of_ble_eq_true rfl) (nI_add _ _) rfl ?_
          refine am_q_goto rfl ?_
          (have e := fun o => ih (j + 1) μ2 o (by omega) ⟨fr_tr hinv.1 hf2, hT2⟩; simp only [eA, eB] at e; exact e _)
        · have hz := pl_none c_92 (fun k hk => by have := hJ.2.2.2 k hk; omega)
          refine am_q_aload_n rfl rfl ?_
          refine am_q_gr rfl rfl rfl ?_
          refine am_q_iconst (v := nI 4) rfl rfl ?_
          refine am_q_call rfl rfl (s_who38 _ 4 (by omega) _ _ hV2.1 hT2 hJ2.1) rfl ?_
          refine am_q_zeqN rfl (Nat.lt_trans (sn_64 h6) (by decide)) (fun c_103 => ?_) (fun c_103 => ?_)
          · rw [if_neg (fun z => by have := of_decide_eq_true z.2; exact this c_103)] at eB
            refine am_q_iinc [some _, some _, some _, some _, some _, some _] rfl (c := nI 1) rfl rfl (Nat.le_of_ble_eq_true rfl) (nI_add _ _) rfl ?_
            refine am_q_goto rfl ?_
            (have e := fun o => ih (j + 1) μ2 o (by omega) ⟨fr_tr hinv.1 hf2, hT2⟩; simp only [eA, eB] at e; exact e _)
          · rw [if_pos ⟨hz, decide_eq_true c_103⟩] at eB
            refine am_q_iload rfl rfl ?_
            refine am_q_istore_n [some _, some _, some _, some _, some _, some _] rfl (Nat.le_of_ble_eq_true rfl) rfl ?_
            refine am_q_iinc [some _, some _, some _, some _, some _, some _] rfl (c := nI 1) rfl rfl (Nat.le_of_ble_eq_true rfl) (nI_add _ _) rfl ?_
            refine am_q_goto rfl ?_
            (have e := fun o => ih (j + 1) μ2 o (by omega) ⟨fr_tr hinv.1 hf2, hT2⟩; simp only [eA, eB] at e; exact e _)
      · rw [if_pos ⟨c_79, pl_none c_84 (fun k hk => by have := hJ.2.2.1 k hk; omega)⟩] at eA
        refine am_q_iload rfl rfl ?_
        refine am_q_istore_n [some _, some _, some _, some _, some _, some _] rfl (Nat.le_of_ble_eq_true rfl) rfl ?_
        refine am_q_iload_n rfl rfl ?_
        refine am_q_iconst (v := -1) rfl rfl ?_
        refine am_q_icmp_ne rfl (fun c_92 => ?_) (fun c_92 => ?_)
        · rw [if_neg (fun z => c_92 (by rw [z.1]; rfl))] at eB
          refine am_q_iinc [some _, some _, some _, some _, some _, some _] rfl (c := nI 1) rfl rfl (Nat.le_of_ble_eq_true rfl) (nI_add _ _) rfl ?_
          refine am_q_goto rfl ?_
          (have e := fun o => ih (j + 1) μ2 o (by omega) ⟨fr_tr hinv.1 hf2, hT2⟩; simp only [eA, eB] at e; exact e _)
        · have hz := pl_none c_92 (fun k hk => by have := hJ.2.2.2 k hk; omega)
          refine am_q_aload_n rfl rfl ?_
          refine am_q_gr rfl rfl rfl ?_
          refine am_q_iconst (v := nI 4) rfl rfl ?_
          refine am_q_call rfl rfl (s_who38 _ 4 (by omega) _ _ hV2.1 hT2 hJ2.1) rfl ?_
          refine am_q_zeqN rfl (Nat.lt_trans (sn_64 h6) (by decide)) (fun c_103 => ?_) (fun c_103 => ?_)
          · rw [if_neg (fun z => by have := of_decide_eq_true z.2; exact this c_103)] at eB
            refine am_q_iinc [some _, some _, some _, some _, some _, some _] rfl (c := nI 1) rfl rfl (Nat.le_of_ble_eq_true rfl) (nI_add _ _) rfl ?_
            refine am_q_goto rfl ?_
            (have e := fun o => ih (j + 1) μ2 o (by omega) ⟨fr_tr hinv.1 hf2, hT2⟩; simp only [eA, eB] at e; exact e _)
          · rw [if_pos ⟨hz, decide_eq_true c_103⟩] at eB
            refine am_q_iload rfl rfl ?_
            refine am_q_istore_n [some _, some _, some _, some _, some _, some _] rfl (Nat.le_of_ble_eq_true rfl) rfl ?_
            refine am_q_iinc [some _, some _, some _, some _, some _, some _] rfl (c := nI 1) rfl rfl (Nat.le_of_ble_eq_true rfl) (nI_add _ _) rfl ?_
            refine am_q_goto rfl ?_
            (have e := fun o => ih (j + 1) μ2 o (by omega) ⟨fr_tr hinv.1 hf2, hT2⟩; simp only [eA, eB] at e; exact e _)

/-- StoneSecrets.judged(I)I -/
theorem x_judged (d : Nat) (w : Int32) (n : Nat) {V : sVal} {W : sWall} {U : List sWall} {K : Nat → Option (sWall × sSeen)} {S : sSeen} {Y : sYear} {μ : am_M2} (ν : am_N2) (hR : xR μ V W U K S Y) (hO : vOk V) (hI : sI (vN V) (vP V) W.1 W.2.1) (ht : W.2.2 < 2 ^ 20) (hYo : yOk V Y) : ∃ (μ' : am_M2), am_run (d + 8) 97 [.ref 2, .int w] (am_hp n μ ν) = some (some (.int (qJudged V Y w)), am_hp n μ' ν) ∧ fr μ μ' := by
  obtain ⟨hV, hW, hU, hK, hS, hY⟩ := hR
  have h6 := hO.1.1
  have hP8 := hO.1.2.1
  have h8 := sI_8 hO hI
  have hR : xR μ V W U K S Y := ⟨hV, hW, hU, hK, hS, hY⟩
  have key : ∃ r, am_run (d + 8) 97 [.ref 2, .int w] (am_hp n μ ν) = some r ∧ ∃ (μ' : am_M2), r = (some (.int (qJudged V Y w)), am_hp n μ' ν) ∧ fr μ μ' := am_run_wE (k := 97) (d := d + 7) rfl rfl (Nat.le_of_ble_eq_true rfl) [some (.ref 2), some (.int w), none, none, none, none] rfl (by
    refine am_q_iload_n rfl rfl ?_
    refine am_q_if_lt rfl (fun c_1 => ?_) (fun c_1 => ?_)
    · have hno : rIn w 0 2 = false := rIn_lo c_1
      refine am_q_bipush (v := -2) rfl rfl ?_
      refine am_q_ireturn rfl rfl rfl ?_
      exact ⟨_, by rw [qJudged, if_neg (by simp [hno])], fr_rf _⟩
    · refine am_q_iload_n rfl rfl ?_
      refine am_q_iconst (v := nI 2) rfl rfl ?_
      refine am_q_icmp_le rfl (fun c_6 => ?_) (fun c_6 => ?_)
      · obtain ⟨k, -, hk2, rfl⟩ := rIn_k (rIn_in (lo := 0) (hi := 2) c_1 (fun q => (fa_of_lt q).2.1 c_6)) (by decide) (by decide)
        obtain ⟨μ1, hb, hb1, hb2⟩ := s_begin38 (d + 5) n (μ := μ) ν
        refine am_q_iconst (v := -1) rfl rfl ?_
        refine am_q_istore_n [some _, some _, some _, none, none, none] rfl (Nat.le_of_ble_eq_true rfl) rfl ?_
        refine am_q_iconst (v := -1) rfl rfl ?_
        refine am_q_istore_n [some _, some _, some _, some _, none, none] rfl (Nat.le_of_ble_eq_true rfl) rfl ?_
        refine am_q_aload_n rfl rfl ?_
        refine am_q_gr rfl rfl rfl ?_
        refine am_q_call rfl rfl (hb) rfl ?_
        refine am_q_iconst (v := nI 0) rfl rfl ?_
        refine am_q_istore [some _, some _, some _, some _, some _, none] rfl (Nat.le_of_ble_eq_true rfl) rfl ?_
        exact x_judgedL d k hk2 n ν hR hO hI ht hYo Y.1 0 μ1 none (by omega) ⟨fun i q z => by rw [hb2 i (by omega)], hb1⟩
      · have hno : rIn w 0 2 = false := rIn_hi (fa_of_nle c_6)
        refine am_q_bipush (v := -2) rfl rfl ?_
        refine am_q_ireturn rfl rfl rfl ?_
        exact ⟨_, by rw [qJudged, if_neg (by simp [hno])], fr_rf _⟩)
  obtain ⟨r, h1, μ', h2, h3⟩ := key
  exact ⟨μ', by rw [h1, h2], h3⟩
