theorem sSt_q {V : sVal} {W : sWall} (hI : sI (vN V) (vP V) W.1 W.2.1) (h6 : vN V ≤ 6) (s : Nat) (hs : s < vN V) (hi : (W.2.1 s).isSome = true) : (sSt V W).testBit s = true := by
  rw [sSt, sBits_tb, decide_eq_true hs, Bool.true_and]
  exact decide_eq_true ((hI s (by omega)).2.1.mp hi)
/-- StoneSecrets.foresee()V -/
theorem s_foresee (d : Nat) (n : Nat) {V : sVal} {W : sWall} {μ : am_M2} (ν : am_N2) (hV : xVal μ V) (hO : vOk V) (hW : xWall μ 35 W) (hI : sI (vN V) (vP V) W.1 W.2.1) (ht : W.2.2 < 2 ^ 20) : ∃ (μ' : am_M2), am_run (d + 6) 102 [.ref 2] (am_hp n μ ν) = some (none, am_hp n μ' ν) ∧ fr μ μ' ∧ xF μ' (plW V W.2.2 W.2.1 60) (fll V W.2.2 W.2.1 60) := by
  have h6 := hO.1.1
  have hP8 := hO.1.2.1
  have h8 := sI_8 hO hI
  obtain ⟨μ1, hp, hfp, hT⟩ := s_prepare d W.2.2 60 (sSt V W) n ν hV hO ht (by decide) (sn_64 h6)
  obtain ⟨μ2, hr, hfr, hF⟩ := s_run37 (d + 2) W.2.2 60 (sSt V W) n ν (xVal_fr (fr_P hfp) hV) hO (by decide) hT h8 (sSt_q hI h6) (fun s hs => by rw [hfp 37 (by decide) (by decide) (by decide)]; exact hW.2.1 s hs)
  have key : ∃ r, am_run (d + 6) 102 [.ref 2] (am_hp n μ ν) = some r ∧ ∃ (μ' : am_M2), r = (none, am_hp n μ' ν) ∧ fr μ μ' ∧ xF μ' (plW V W.2.2 W.2.1 60) (fll V W.2.2 W.2.1 60) := am_run_wE (k := 102) (d := d + 5) rfl rfl (Nat.le_of_ble_eq_true rfl) [some (.ref 2)] rfl (by
    refine am_q_aload_n rfl rfl ?_
    refine am_q_gr rfl rfl rfl ?_
    refine am_q_aload_n rfl rfl ?_
    refine am_q_gr rfl rfl rfl ?_
    refine am_q_gi rfl rfl rfl hW.2.2 ?_
    refine am_q_bipush (v := nI 60) rfl rfl ?_
    refine am_q_aload_n rfl rfl ?_
    refine am_q_gr rfl rfl rfl ?_
    refine am_q_iconst (v := nI 2) rfl rfl ?_
    refine am_q_call rfl rfl (s_who35 _ _ (by omega) _ _ hV.1 hW hI) rfl ?_
    refine am_q_call rfl rfl (hp) rfl ?_
    refine am_q_aload_n rfl rfl ?_
    refine am_q_gr rfl rfl rfl ?_
    refine am_q_aload_n rfl rfl ?_
    refine am_q_gr rfl rfl rfl ?_
    refine am_q_gr rfl rfl rfl ?_
    refine am_q_call rfl rfl (hr) rfl ?_
    refine am_q_return rfl rfl ?_
    exact ⟨μ2, rfl, fr_tr (fr_P hfp) (fr_R hfr), hF⟩)
  obtain ⟨r, h1, μ', h2, h3⟩ := key
  exact ⟨μ', by rw [h1, h2], h3⟩

def qFalls (V : sVal) (W : sWall) (s : Int32) : Int32 := if sIs (vN V) W.1 s 2 = true then (if 0 < fll V W.2.2 W.2.1 60 (ik s) then nI (fll V W.2.2 W.2.1 60 (ik s)) else -1) else -1
def sLater (V : sVal) (W : sWall) (w : Nat) : Nat := sBits (fun s => (plW V W.2.2 W.2.1 w s).isSome) (vN V)
def qLater (V : sVal) (W : sWall) (w : Int32) : Int32 := if rIn w 0 60 = true then nI (sLater V W (ik w)) else -1
def qBare (V : sVal) (W : sWall) : Int32 := if fa_first (fun w => decide (sLater V W w = 0)) 61 < 61 then nI (fa_first (fun w => decide (sLater V W w = 0)) 61) else -1
def fiS (V : sVal) (W : sWall) : Nat → Option Nat := lpF (fun s x => if 0 < fll V W.2.2 W.2.1 60 s ∧ (∀ b, x = some b → fll V W.2.2 W.2.1 60 s < fll V W.2.2 W.2.1 60 b) then some s else x) none
/-- StoneSecrets.falls(I)I -/
theorem x_falls (d : Nat) (s : Int32) (n : Nat) {V : sVal} {W : sWall} {μ : am_M2} (ν : am_N2) (hV : xVal μ V) (hO : vOk V) (hW : xWall μ 35 W) (hI : sI (vN V) (vP V) W.1 W.2.1) (ht : W.2.2 < 2 ^ 20) : ∃ (μ' : am_M2), am_run (d + 7) 101 [.ref 2, .int s] (am_hp n μ ν) = some (some (.int (qFalls V W s)), am_hp n μ' ν) ∧ fr μ μ' := by
  have h6 := hO.1.1
  have hP8 := hO.1.2.1
  have h8 := sI_8 hO hI
  obtain ⟨μ1, hc, hf, hF⟩ := s_foresee d n ν hV hO hW hI ht
  have hV1 := xVal_fr hf hV
  have hW1 := xW_fr hf (Or.inl rfl) hW
  have key : ∃ r, am_run (d + 7) 101 [.ref 2, .int s] (am_hp n μ ν) = some r ∧ ∃ (μ' : am_M2), r = (some (.int (qFalls V W s)), am_hp n μ' ν) ∧ fr μ μ' := am_run_wE (k := 101) (d := d + 6) rfl rfl (Nat.le_of_ble_eq_true rfl) [some (.ref 2), some (.int s), none] rfl (by
    refine am_q_aload_n rfl rfl ?_
    refine am_q_gr rfl rfl rfl ?_
    refine am_q_iload_n rfl rfl ?_
    refine am_q_iconst (v := nI 2) rfl rfl ?_
    refine am_q_call rfl rfl (s_is35 _ _ _ (by omega) _ _ hV.1 hW hI) rfl ?_
    refine am_q_if_neB rfl (fun c_9 => ?_) (fun c_9 => ?_)
    · obtain ⟨k, hk, rfl, -, -⟩ := isK c_9 h6
      have hfl := fll_le V W.2.2 W.2.1 60 k
      refine am_q_aload_n rfl rfl ?_
      refine am_q_call rfl rfl (hc) rfl ?_
      refine am_q_aload_n rfl rfl ?_
      refine am_q_gr rfl rfl rfl ?_
      refine am_q_gr rfl rfl rfl ?_
      refine am_q_iload_n rfl rfl ?_
      refine am_q_iald rfl rfl (by first | exact am_ix_nI (by omega) (by omega) | rfl) (hF.2 _ (by omega)) ?_
      refine am_q_istore_n [some _, some _, some _] rfl (Nat.le_of_ble_eq_true rfl) rfl ?_
      refine am_q_iload_n rfl rfl ?_
      refine am_q_zleN rfl (by omega) (fun c_29 => ?_) (fun c_29 => ?_)
      · refine am_q_iconst (v := -1) rfl rfl ?_
        refine am_q_ireturn rfl rfl rfl ?_
        exact ⟨_, by rw [qFalls, if_pos c_9, ik_nI (by omega), if_neg (by omega)], hf⟩
      · refine am_q_iload_n rfl rfl ?_
        refine am_q_goto rfl ?_
        refine am_q_ireturn rfl rfl rfl ?_
        exact ⟨_, by rw [qFalls, if_pos c_9, ik_nI (by omega), if_pos c_29], hf⟩
    · refine am_q_iconst (v := -1) rfl rfl ?_
      refine am_q_ireturn rfl rfl rfl ?_
      exact ⟨_, by rw [qFalls, if_neg (by simp [c_9])], fr_rf _⟩)
  obtain ⟨r, h1, μ', h2, h3⟩ := key
  exact ⟨μ', by rw [h1, h2], h3⟩

/-- StoneSecrets.later(I)I -/
theorem x_later (d : Nat) (w : Int32) (n : Nat) {V : sVal} {W : sWall} {μ : am_M2} (ν : am_N2) (hV : xVal μ V) (hO : vOk V) (hW : xWall μ 35 W) (hI : sI (vN V) (vP V) W.1 W.2.1) (ht : W.2.2 < 2 ^ 20) : ∃ (μ' : am_M2), am_run (d + 7) 110 [.ref 2, .int w] (am_hp n μ ν) = some (some (.int (qLater V W w)), am_hp n μ' ν) ∧ fr μ μ' := by
  have h6 := hO.1.1
  have hP8 := hO.1.2.1
  have h8 := sI_8 hO hI
  obtain ⟨μ1, hc, hf, hF⟩ := s_foresee d n ν hV hO hW hI ht
  have hV1 := xVal_fr hf hV
  have hW1 := xW_fr hf (Or.inl rfl) hW
  have key : ∃ r, am_run (d + 7) 110 [.ref 2, .int w] (am_hp n μ ν) = some r ∧ ∃ (μ' : am_M2), r = (some (.int (qLater V W w)), am_hp n μ' ν) ∧ fr μ μ' := am_run_wE (k := 110) (d := d + 6) rfl rfl (Nat.le_of_ble_eq_true rfl) [some (.ref 2), some (.int w)] rfl (by
    refine am_q_iload_n rfl rfl ?_
    refine am_q_if_lt rfl (fun c_1 => ?_) (fun c_1 => ?_)
    · have hno : rIn w 0 60 = false := rIn_lo c_1
      refine am_q_iconst (v := -1) rfl rfl ?_
      refine am_q_ireturn rfl rfl rfl ?_
      exact ⟨_, by rw [qLater, if_neg (by simp [hno])], fr_rf _⟩
    · refine am_q_iload_n rfl rfl ?_
      refine am_q_bipush (v := nI 60) rfl rfl ?_
      refine am_q_icmp_le rfl (fun c_7 => ?_) (fun c_7 => ?_)
      · have hyes := rIn_in (lo := 0) (hi := 60) c_1 (fun q => (fa_of_lt q).2.1 c_7)
        obtain ⟨k, -, hk2, rfl⟩ := rIn_k hyes (by decide) (by decide)
        refine am_q_aload_n rfl rfl ?_
        refine am_q_call rfl rfl (hc) rfl ?_
        refine am_q_aload_n rfl rfl ?_
        refine am_q_gr rfl rfl rfl ?_
        refine am_q_iload_n rfl rfl ?_
        refine am_q_call rfl rfl (s_sb _ W.2.2 60 k n ν hV1 hO (by decide) hk2 h8 hF) rfl ?_
        refine am_q_ireturn rfl rfl rfl ?_
        exact ⟨_, by rw [qLater, if_pos hyes, ik_nI (by omega)]; rfl, hf⟩
      · have hno : rIn w 0 60 = false := rIn_hi (fa_of_nle c_7)
        refine am_q_iconst (v := -1) rfl rfl ?_
        refine am_q_ireturn rfl rfl rfl ?_
        exact ⟨_, by rw [qLater, if_neg (by simp [hno])], fr_rf _⟩)
  obtain ⟨r, h1, μ', h2, h3⟩ := key
  exact ⟨μ', by rw [h1, h2], h3⟩

theorem x_bareL (d : Nat) (n : Nat) {V : sVal} {W : sWall} {μ : am_M2} (ν : am_N2) (hV : xVal μ V) (hO : vOk V) (hI : sI (vN V) (vP V) W.1 W.2.1) (hF : xF μ (plW V W.2.2 W.2.1 60) (fll V W.2.2 W.2.1 60)) : ∀ (m j : Nat) , j + m = 61 → (∀ w, w < j → decide (sLater V W w = 0) = false) → am_w (d + 1) (Option.some FieldType.int) am_g112 6 [some (.ref 2), some (.int (nI j))] [] (am_hp n μ ν) (fun y => y = (some (.int (qBare V W)), am_hp n μ ν)) := by
  intro m
  induction m with
  | zero =>
    intro j  hj hinv
    have h6 := hO.1.1
    have h8 := sI_8 hO hI
    refine am_q_iload_n rfl rfl ?_
    refine am_q_bipush (v := nI 60) rfl rfl ?_
    refine am_q_igtN rfl (by omega) (by omega) (fun c_9 => ?_) (fun c_9 => absurd c_9 (by omega))
    refine am_q_iconst (v := -1) rfl rfl ?_
    refine am_q_ireturn rfl rfl rfl ?_
    rw [qBare, if_neg (ff_no (fun w hw => hinv w (by omega)))]
  | succ m ih =>
    intro j  hj hinv
    have h6 := hO.1.1
    have h8 := sI_8 hO hI
    refine am_q_iload_n rfl rfl ?_
    refine am_q_bipush (v := nI 60) rfl rfl ?_
    refine am_q_igtN rfl (by omega) (by omega) (fun c_9 => absurd c_9 (by omega)) (fun c_9 => ?_)
    refine am_q_aload_n rfl rfl ?_
    refine am_q_gr rfl rfl rfl ?_
    refine am_q_iload_n rfl rfl ?_
    refine am_q_call rfl rfl (s_sb _ W.2.2 60 j n ν hV hO (by decide) (by omega) h8 hF) rfl ?_
    refine am_q_zneN rfl (Nat.lt_trans (sn_64 h6) (by decide)) (fun c_20 => ?_) (fun c_20 => ?_)
    · refine am_q_iinc [some _, some _] rfl (c := nI 1) rfl rfl (Nat.le_of_ble_eq_true rfl) (nI_add _ _) rfl ?_
      refine am_q_goto rfl ?_
      exact ih (j + 1) (by omega) (fun w hw => by by_cases z : w < j; exact hinv w z; rw [show w = j by omega]; exact decide_eq_false c_20)
    · refine am_q_iload_n rfl rfl ?_
      refine am_q_ireturn rfl rfl rfl ?_
      rw [qBare, ff_yes (k := j) (by omega) hinv (decide_eq_true c_20), if_pos (by omega)]

/-- StoneSecrets.bare()I -/
theorem x_bare (d : Nat) (n : Nat) {V : sVal} {W : sWall} {μ : am_M2} (ν : am_N2) (hV : xVal μ V) (hO : vOk V) (hW : xWall μ 35 W) (hI : sI (vN V) (vP V) W.1 W.2.1) (ht : W.2.2 < 2 ^ 20) : ∃ (μ' : am_M2), am_run (d + 7) 112 [.ref 2] (am_hp n μ ν) = some (some (.int (qBare V W)), am_hp n μ' ν) ∧ fr μ μ' := by
  have h6 := hO.1.1
  have hP8 := hO.1.2.1
  have h8 := sI_8 hO hI
  obtain ⟨μ1, hc, hf, hF⟩ := s_foresee d n ν hV hO hW hI ht
  have hV1 := xVal_fr hf hV
  have hW1 := xW_fr hf (Or.inl rfl) hW
  have key : ∃ r, am_run (d + 7) 112 [.ref 2] (am_hp n μ ν) = some r ∧ ∃ (μ' : am_M2), r = (some (.int (qBare V W)), am_hp n μ' ν) ∧ fr μ μ' := am_run_wE (k := 112) (d := d + 6) rfl rfl (Nat.le_of_ble_eq_true rfl) [some (.ref 2), none] rfl (by
    refine am_q_aload_n rfl rfl ?_
    refine am_q_call rfl rfl (hc) rfl ?_
    refine am_q_iconst (v := nI 0) rfl rfl ?_
    refine am_q_istore_n [some _, some _] rfl (Nat.le_of_ble_eq_true rfl) rfl ?_
    exact am_w_mono (fun r hr => ⟨μ1, hr, hf⟩) (x_bareL (d + 5) n ν hV1 hO hI hF 61 0 (by omega) (fun w hw => absurd hw (Nat.not_lt_zero w))))
  obtain ⟨r, h1, μ', h2, h3⟩ := key
  exact ⟨μ', by rw [h1, h2], h3⟩

theorem fiS_lt (V : sVal) (W : sWall) : ∀ n b, fiS V W n = some b → b < n
  | 0, b, h => by cases h
  | n + 1, b, h => by
    rw [fiS, lpF_s] at h
    split at h
    · cases h; omega
    · have := fiS_lt V W n b h; omega
theorem fiS_y {V : sVal} {W : sWall} {j : Nat} (h : 0 < fll V W.2.2 W.2.1 60 j) (h2 : ∀ b, fiS V W j = some b → fll V W.2.2 W.2.1 60 j < fll V W.2.2 W.2.1 60 b) : fiS V W (j + 1) = some j := if_pos ⟨h, h2⟩
theorem fiS_n {V : sVal} {W : sWall} {j : Nat} (h : ¬ (0 < fll V W.2.2 W.2.1 60 j ∧ ∀ b, fiS V W j = some b → fll V W.2.2 W.2.1 60 j < fll V W.2.2 W.2.1 60 b)) : fiS V W (j + 1) = fiS V W j := if_neg h
theorem x_firstL (d : Nat) (n : Nat) {V : sVal} {W : sWall} {μ : am_M2} (ν : am_N2) (hV : xVal μ V) (hO : vOk V) (hI : sI (vN V) (vP V) W.1 W.2.1) (hF : xF μ (plW V W.2.2 W.2.1 60) (fll V W.2.2 W.2.1 60)) : ∀ (m j : Nat) (o3 : Option Value), j + m = vN V → am_w (d + 1) (Option.some FieldType.int) am_g113 8 [some (.ref 2), some (.int (sn_place (fiS V W j))), some (.int (nI j)), o3] [] (am_hp n μ ν) (fun y => y = (some (.int (sn_place (fiS V W (vN V)))), am_hp n μ ν)) := by
  intro m
  induction m with
  | zero =>
    intro j o3 hj
    have h6 := hO.1.1
    have h8 := sI_8 hO hI
    refine am_q_iload_n rfl rfl ?_
    refine am_q_aload_n rfl rfl ?_
    refine am_q_gr rfl rfl rfl ?_
    refine am_q_gi rfl rfl rfl hV.1.1 ?_
    refine am_q_igeN rfl (by omega) (by omega) (fun c_16 => ?_) (fun c_16 => absurd c_16 (by omega))
    refine am_q_iload_n rfl rfl ?_
    refine am_q_ireturn rfl rfl rfl ?_
    rw [show j = vN V by omega]
  | succ m ih =>
    intro j o3 hj
    have h6 := hO.1.1
    have h8 := sI_8 hO hI
    have hl := fiS_lt V W j
    have hfl := fll_le V W.2.2 W.2.1 60 j
    refine am_q_iload_n rfl rfl ?_
    refine am_q_aload_n rfl rfl ?_
    refine am_q_gr rfl rfl rfl ?_
    refine am_q_gi rfl rfl rfl hV.1.1 ?_
    refine am_q_igeN rfl (by omega) (by omega) (fun c_16 => absurd c_16 (by omega)) (fun c_16 => ?_)
    refine am_q_aload_n rfl rfl ?_
    refine am_q_gr rfl rfl rfl ?_
    refine am_q_gr rfl rfl rfl ?_
    refine am_q_iload_n rfl rfl ?_
    refine am_q_iald rfl rfl (by first | exact am_ix_nI (by omega) (by omega) | rfl) (hF.2 _ (by omega)) ?_
    refine am_q_istore_n [some _, some _, some _, some _] rfl (Nat.le_of_ble_eq_true rfl) rfl ?_
    refine am_q_iload_n rfl rfl ?_
    refine am_q_zleN rfl (by omega) (fun c_30 => ?_) (fun c_30 => ?_)
    · have hn : ¬ (0 < fll V W.2.2 W.2.1 60 j ∧ ∀ b, fiS V W j = some b → fll V W.2.2 W.2.1 60 j < fll V W.2.2 W.2.1 60 b) := fun z => by omega
      refine am_q_iinc [some _, some _, some _, some _] rfl (c := nI 1) rfl rfl (Nat.le_of_ble_eq_true rfl) (nI_add _ _) rfl ?_
      refine am_q_goto rfl ?_
      first | (have e := fun o => ih (j + 1) o (by omega); simp only [fiS_n hn] at e; exact e _) | (have e := fun o => ih (j + 1) o (by omega); simp only [fiS_y c_30 hb] at e; exact e _)
    · refine am_q_iload_n rfl rfl ?_
      refine am_q_iconst (v := -1) rfl rfl ?_
      refine am_q_icmp_eq rfl (fun c_35 => ?_) (fun c_35 => ?_)
      · have hq := pl_none c_35 (fun k hk => by have := hl k hk; omega)
        have hb : ∀ b, fiS V W j = some b → fll V W.2.2 W.2.1 60 j < fll V W.2.2 W.2.1 60 b := fun b q => by rw [hq] at q; cases q
        refine am_q_iload_n rfl rfl ?_
        refine am_q_istore_n [some _, some _, some _, some _] rfl (Nat.le_of_ble_eq_true rfl) rfl ?_
        refine am_q_iinc [some _, some _, some _, some _] rfl (c := nI 1) rfl rfl (Nat.le_of_ble_eq_true rfl) (nI_add _ _) rfl ?_
        refine am_q_goto rfl ?_
        first | (have e := fun o => ih (j + 1) o (by omega); simp only [fiS_n hn] at e; exact e _) | (have e := fun o => ih (j + 1) o (by omega); simp only [fiS_y c_30 hb] at e; exact e _)
      · obtain ⟨b, hb0⟩ := pl_some c_35
        have hbl := hl b hb0
        have hfb := fll_le V W.2.2 W.2.1 60 b
        refine am_q_iload_n rfl rfl ?_
        refine am_q_aload_n rfl rfl ?_
        refine am_q_gr rfl rfl rfl ?_
        refine am_q_gr rfl rfl rfl ?_
        refine am_q_iload_n rfl rfl ?_
        refine am_q_iald rfl rfl (by rw [hb0]; exact am_ix_nI (show b < 6 by omega) (by decide)) (hF.2 b (by omega)) ?_
        refine am_q_igeN rfl (by omega) (by omega) (fun c_48 => ?_) (fun c_48 => ?_)
        · have hn : ¬ (0 < fll V W.2.2 W.2.1 60 j ∧ ∀ b, fiS V W j = some b → fll V W.2.2 W.2.1 60 j < fll V W.2.2 W.2.1 60 b) := fun z => by have := z.2 b hb0; omega
          refine am_q_iinc [some _, some _, some _, some _] rfl (c := nI 1) rfl rfl (Nat.le_of_ble_eq_true rfl) (nI_add _ _) rfl ?_
          refine am_q_goto rfl ?_
          first | (have e := fun o => ih (j + 1) o (by omega); simp only [fiS_n hn] at e; exact e _) | (have e := fun o => ih (j + 1) o (by omega); simp only [fiS_y c_30 hb] at e; exact e _)
        · have hb : ∀ b, fiS V W j = some b → fll V W.2.2 W.2.1 60 j < fll V W.2.2 W.2.1 60 b := fun b q => by rw [hb0] at q; cases q; exact c_48
          refine am_q_iload_n rfl rfl ?_
          refine am_q_istore_n [some _, some _, some _, some _] rfl (Nat.le_of_ble_eq_true rfl) rfl ?_
          refine am_q_iinc [some _, some _, some _, some _] rfl (c := nI 1) rfl rfl (Nat.le_of_ble_eq_true rfl) (nI_add _ _) rfl ?_
          refine am_q_goto rfl ?_
          first | (have e := fun o => ih (j + 1) o (by omega); simp only [fiS_n hn] at e; exact e _) | (have e := fun o => ih (j + 1) o (by omega); simp only [fiS_y c_30 hb] at e; exact e _)

/-- StoneSecrets.first()I -/
theorem x_first (d : Nat) (n : Nat) {V : sVal} {W : sWall} {μ : am_M2} (ν : am_N2) (hV : xVal μ V) (hO : vOk V) (hW : xWall μ 35 W) (hI : sI (vN V) (vP V) W.1 W.2.1) (ht : W.2.2 < 2 ^ 20) : ∃ (μ' : am_M2), am_run (d + 7) 113 [.ref 2] (am_hp n μ ν) = some (some (.int (sn_place (fiS V W (vN V)))), am_hp n μ' ν) ∧ fr μ μ' := by
  have h6 := hO.1.1
  have hP8 := hO.1.2.1
  have h8 := sI_8 hO hI
  obtain ⟨μ1, hc, hf, hF⟩ := s_foresee d n ν hV hO hW hI ht
  have hV1 := xVal_fr hf hV
  have hW1 := xW_fr hf (Or.inl rfl) hW
  have key : ∃ r, am_run (d + 7) 113 [.ref 2] (am_hp n μ ν) = some r ∧ ∃ (μ' : am_M2), r = (some (.int (sn_place (fiS V W (vN V)))), am_hp n μ' ν) ∧ fr μ μ' := am_run_wE (k := 113) (d := d + 6) rfl rfl (Nat.le_of_ble_eq_true rfl) [some (.ref 2), none, none, none] rfl (by
    refine am_q_aload_n rfl rfl ?_
    refine am_q_call rfl rfl (hc) rfl ?_
    refine am_q_iconst (v := -1) rfl rfl ?_
    refine am_q_istore_n [some _, some _, none, none] rfl (Nat.le_of_ble_eq_true rfl) rfl ?_
    refine am_q_iconst (v := nI 0) rfl rfl ?_
    refine am_q_istore_n [some _, some _, some _, none] rfl (Nat.le_of_ble_eq_true rfl) rfl ?_
    exact am_w_mono (fun r hr => ⟨μ1, hr, hf⟩) (x_firstL (d + 5) n ν hV1 hO hI hF (vN V) 0 none (by omega)))
  obtain ⟨r, h1, μ', h2, h3⟩ := key
  exact ⟨μ', by rw [h1, h2], h3⟩
