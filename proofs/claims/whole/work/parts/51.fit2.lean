theorem s_beginWaysW (d : Nat) (n : Nat) {V : sVal} {W : sWall} {μ : am_M2} (ν : am_N2) (hV : xVal μ V) (hO : vOk V) (hW : xWall μ 35 W) (hI : sI (vN V) (vP V) W.1 W.2.1) (ht : W.2.2 < 2 ^ 20) : ∃ (μ' : am_M2), am_run (d + 3) 116 [.ref 2] (am_hp n μ ν) = some (none, am_hp n μ' ν) ∧ frW μ μ' ∧ msOk V (mvL (sLo V W) 6) ∧ xIt V (mvL (sLo V W) 6) μ' (waysOf V W) := by
  have h6 := hO.1.1
  have hP8 := hO.1.2.1
  have h8 := sI_8 hO hI
  obtain ⟨μ1, hc, hf, hm, hi⟩ := s_wbegin2W d n ν h6 (sI_p hI) (sLo V W) (sSt V W) (sn_64 h6) (sn_64 h6) (sLo_N) (fun s h => sLoSt h) hW.2.1
  have key : ∃ r, am_run (d + 3) 116 [.ref 2] (am_hp n μ ν) = some r ∧ ∃ (μ' : am_M2), r = (none, am_hp n μ' ν) ∧ frW μ μ' ∧ msOk V (mvL (sLo V W) 6) ∧ xIt V (mvL (sLo V W) 6) μ' (waysOf V W) := am_run_wE (k := 116) (d := d + 2) rfl rfl (Nat.le_of_ble_eq_true rfl) [some (.ref 2)] rfl (by
    refine am_q_aload_n rfl rfl ?_
    refine am_q_gr rfl rfl rfl ?_
    refine am_q_aload_n rfl rfl ?_
    refine am_q_gr rfl rfl rfl ?_
    refine am_q_gr rfl rfl rfl ?_
    refine am_q_aload_n rfl rfl ?_
    refine am_q_gr rfl rfl rfl ?_
    refine am_q_call rfl rfl (s_loose _ _ _ hV.1 hW hI) rfl ?_
    refine am_q_aload_n rfl rfl ?_
    refine am_q_gr rfl rfl rfl ?_
    refine am_q_iconst (v := nI 2) rfl rfl ?_
    refine am_q_call rfl rfl (s_who35 _ _ (by omega) _ _ hV.1 hW hI) rfl ?_
    refine am_q_call rfl rfl (hc) rfl ?_
    refine am_q_return rfl rfl ?_
    exact ⟨_, rfl, hf, hm, hi⟩)
  obtain ⟨r, h1, μ', h2, h3⟩ := key
  exact ⟨μ', by rw [h1, h2], h3⟩

/-- the WAYS that fit what is SEEN -/
def ftB (V : sVal) (S : sSeen) (pl : Nat → Option Nat) : Bool := agr S (fun p => wAt V pl p (vN V)) S.1
def ftF (V : sVal) (S : sSeen) (ws : List (Nat → Option Nat)) : Nat := (ws.filter (ftB V S)).length
def tlF (V : sVal) (S : sSeen) (ws : List (Nat → Option Nat)) (p w : Nat) : Nat := (ws.filter (fun pl => ftB V S pl && decide (wAt V pl p (vN V) = w))).length
theorem ftF_y {V : sVal} {S : sSeen} {pl : Nat → Option Nat} {vs : List (Nat → Option Nat)} (h : ftB V S pl = true) : ftF V S (pl :: vs) = 1 + ftF V S vs := by unfold ftF; rw [List.filter_cons, if_pos h, List.length_cons]; omega
theorem ftF_n {V : sVal} {S : sSeen} {pl : Nat → Option Nat} {vs : List (Nat → Option Nat)} (h : ftB V S pl = false) : ftF V S (pl :: vs) = ftF V S vs := by unfold ftF; rw [List.filter_cons, if_neg (by simp [h])]
theorem tlF_y {V : sVal} {S : sSeen} {pl : Nat → Option Nat} {vs : List (Nat → Option Nat)} (h : ftB V S pl = true) (p w : Nat) : tlF V S (pl :: vs) p w = (if wAt V pl p (vN V) = w then 1 else 0) + tlF V S vs p w := by
  unfold tlF; rw [List.filter_cons, h]
  by_cases z : wAt V pl p (vN V) = w
  · simp [z]; omega
  · simp [z]
theorem tlF_n {V : sVal} {S : sSeen} {pl : Nat → Option Nat} {vs : List (Nat → Option Nat)} (h : ftB V S pl = false) (p w : Nat) : tlF V S (pl :: vs) p w = tlF V S vs p w := by unfold tlF; rw [List.filter_cons, if_neg (by simp [h])]
def tR (P : Nat) (g : Nat → Int32) (T : Nat → Nat → Nat) : Prop := ∀ p, p < P → ∀ w, w < 64 → g (p * 64 + w) = nI (T p w)
theorem s_tallyI (d x i : Nat) (n : Nat) {V : sVal} {μ : am_M2} (ν : am_N2) (hV : xVal μ V) (hO : vOk V) (wa : Nat → Nat) (hw : ∀ p, p < 8 → wa p ≤ 41 ∧ μ 124 p = nI (wa p)) (T : Nat → Nat → Nat) (Q : am_R → Prop) (K : ∀ g o3, tR (vP V) g (fun p w => T p w + if wa p = w then 1 else 0) → am_w (d + 5) (Option.some FieldType.int) am_g158 101 [some (.ref 2), some (.int (nI x)), some (.int (nI i)), o3] [] (am_hp n (am_rw μ 132 g) ν) Q) : ∀ (m j : Nat) (g : Nat → Int32), j + m = vP V → tR (vP V) g (fun p w => T p w + if p < j ∧ wa p = w then 1 else 0) → am_w (d + 5) (Option.some FieldType.int) am_g158 61 [some (.ref 2), some (.int (nI x)), some (.int (nI i)), some (.int (nI j))] [] (am_hp n (am_rw μ 132 g) ν) (Q) := by
  intro m
  induction m with
  | zero =>
    intro j g hj hinv
    have hP8 := hO.1.2.1
    refine am_q_iload_n rfl rfl ?_
    refine am_q_aload_n rfl rfl ?_
    refine am_q_gr rfl rfl rfl ?_
    refine am_q_gi rfl rfl rfl hV.1.2.2.1 ?_
    refine am_q_igeN rfl (by omega) (by omega) (fun c_69 => ?_) (fun c_69 => absurd c_69 (by omega))
    refine K g _ (fun p hp w hw => ?_)
    rw [hinv p hp w hw]
    dsimp only
    by_cases z : wa p = w
    · rw [if_pos ⟨by omega, z⟩, if_pos z]
    · rw [if_neg (fun q => z q.2), if_neg z]
  | succ m ih =>
    intro j g hj hinv
    have hP8 := hO.1.2.1
    have hwj := (hw j (by omega)).1
    have hgj := hinv j (by omega) (wa j) (by omega)
    dsimp only at hgj
    rw [if_neg (by omega), Nat.add_zero] at hgj
    refine am_q_iload_n rfl rfl ?_
    refine am_q_aload_n rfl rfl ?_
    refine am_q_gr rfl rfl rfl ?_
    refine am_q_gi rfl rfl rfl hV.1.2.2.1 ?_
    refine am_q_igeN rfl (by omega) (by omega) (fun c_69 => absurd c_69 (by omega)) (fun c_69 => ?_)
    refine am_q_aload_n rfl rfl ?_
    refine am_q_gr rfl rfl rfl ?_
    refine am_q_iload_n rfl rfl ?_
    refine am_q_bipush (v := nI 64) rfl rfl ?_
    refine am_q_imul rfl (pk_mul _ _) ?_
    refine am_q_aload_n rfl rfl ?_
    refine am_q_gr rfl rfl rfl ?_
    refine am_q_gr rfl rfl rfl ?_
    refine am_q_iload_n rfl rfl ?_
    refine am_q_iald rfl rfl (by first | exact am_ix_nI (by omega) (by omega) | rfl) (hw _ (by omega)).2 ?_
    refine am_q_iadd rfl (nI_add _ _) ?_
    refine am_q_dup2ir rfl ?_
    refine am_q_iald rfl rfl (by first | exact am_ix_nI (by omega) (by omega) | rfl) hgj ?_
    refine am_q_iconst (v := nI 1) rfl rfl ?_
    refine am_q_iadd rfl (nI_add _ _) ?_
    refine am_q_iast rfl rfl (by first | exact am_ix_nI (by omega) (by omega) | rfl) rfl ?_
    rw [am_rw_up]
    refine am_q_iinc [some _, some _, some _, some _] rfl (c := nI 1) rfl rfl (Nat.le_of_ble_eq_true rfl) (nI_add _ _) rfl ?_
    refine am_q_goto rfl ?_
    refine ih (j + 1) _ (by omega) (fun p hp w hw => ?_)
    dsimp only
    by_cases z : p * 64 + w = j * 64 + wa j
    · have z1 : p = j := by omega
      have z2 : w = wa j := by omega
      rw [z, pk_us, z1, z2, if_pos ⟨by omega, rfl⟩]
    · rw [pk_un z, hinv p hp w hw]
      dsimp only
      by_cases y : wa p = w
      · have : p ≠ j := fun e => z (by rw [← y, e])
        by_cases y2 : p < j
        · rw [if_pos ⟨y2, y⟩, if_pos ⟨by omega, y⟩]
        · rw [if_neg (fun q => y2 q.1), if_neg (fun q => by omega)]
      · rw [if_neg (fun q => y q.2), if_neg (fun q => y q.2)]

theorem s_tallyL (d : Nat) (n : Nat) {V : sVal} {ms : List Nat} {S : sSeen} {μ : am_M2} (ν : am_N2) (hV : xVal μ V) (hO : vOk V) (hm : msOk V ms) (hS : xSeen μ 117 S) (hN : nOk V S) : ∀ (ws : List (Nat → Option Nat)) (j : Nat) (μ1 : am_M2) (x : Nat) (T : Nat → Nat → Nat) (o3 : Option Value), j + ws.length ≤ 262144 → (∀ w, w ∈ ws → pOk V w) → fr μ μ1 ∧ xIt V ms μ1 ws → tR (vP V) (μ1 132) T → am_w (d + 5) (Option.some FieldType.int) am_g158 16 [some (.ref 2), some (.int (nI x)), some (.int (nI j)), o3] [] (am_hp n μ1 ν) (fun y => ∃ (μ' : am_M2), y = (some (.int (nI (x + ftF V S ws))), am_hp n μ' ν) ∧ fr μ μ' ∧ tR (vP V) (μ' 132) (fun p w => T p w + tlF V S ws p w)) := by
  intro ws
  induction ws with
  | nil =>
    intro j μ1 x T o3 hj hall hit hinv
    have hV1 := xVal_fr hit.1 hV
    obtain ⟨μ2, hc, hfw⟩ := s_nextNW d n ν hV1 hO hm hit.2
    have hf2 := fr_W hfw
    have hf := fr_tr hit.1 hf2
    have hV2 := xVal_fr hf2 hV1
    have hjl : j ≤ 262144 := by simpa using hj
    refine am_q_iload_n rfl rfl ?_
    refine am_q_ldc (v := nI 1000000) rfl rfl ?_
    refine am_q_igeN rfl (by omega) (by omega) (fun c_19 => absurd c_19 (by omega)) (fun c_19 => ?_)
    refine am_q_aload_n rfl rfl ?_
    refine am_q_gr rfl rfl rfl ?_
    refine am_q_call rfl rfl (hc) rfl ?_
    refine am_q_if_eqB rfl (fun c_29 => ?_) (fun c_29 => by simp at c_29)
    refine am_q_iload_n rfl rfl ?_
    refine am_q_ireturn rfl rfl rfl ?_
    refine ⟨_, rfl, hf, ?_⟩
    rw [hfw 132 (by omega)]
    exact hinv
  | cons pl vs ih =>
    intro j μ1 x T o3 hj hall hit hinv
    have hV1 := xVal_fr hit.1 hV
    obtain ⟨μ2, hc, hfw, hi2, hs2⟩ := s_nextCW d n ν hV1 hO hm hit.2
    have hf2 := fr_W hfw
    have hf := fr_tr hit.1 hf2
    have hV2 := xVal_fr hf2 hV1
    have hpk := hall pl List.mem_cons_self
    have h8w := pOk_8 hO hpk
    rw [List.length_cons] at hj
    have hall2 : ∀ w, w ∈ vs → pOk V w := fun w hw => hall w (List.mem_cons_of_mem _ hw)
    obtain ⟨μ3, hc3, hr3, hw3⟩ := s_weigh (d + 2) n ν hV2 hO h8w hs2
    have hf3 : fr μ2 μ3 := fun i k q => by rw [hr3 i (by omega)]
    have hV3 := xVal_fr hf3 hV2
    have hS3 := xSeen_rows (fun i a b => funext fun k => (fr_tr hf hf3) i k (by omega)) hS
    have hwa : ∀ p, p < 8 → wAt V pl p (vN V) ≤ 41 ∧ μ3 124 p = nI (wAt V pl p (vN V)) := fun p hp => ⟨wAt_le hO pl p _ (Nat.le_refl _), hw3 p hp⟩
    have hT3 : tR (vP V) (μ3 132) T := by rw [hr3 132 (by omega), hfw 132 (by omega)]; exact hinv
    have hi3 := xIt_rows (fun i a b => hr3 i (by omega)) hi2
    refine am_q_iload_n rfl rfl ?_
    refine am_q_ldc (v := nI 1000000) rfl rfl ?_
    refine am_q_igeN rfl (by omega) (by omega) (fun c_19 => absurd c_19 (by omega)) (fun c_19 => ?_)
    refine am_q_aload_n rfl rfl ?_
    refine am_q_gr rfl rfl rfl ?_
    refine am_q_call rfl rfl (hc) rfl ?_
    refine am_q_if_eqB rfl (fun c_29 => by simp at c_29) (fun c_29 => ?_)
    refine am_q_aload_n rfl rfl ?_
    refine am_q_gr rfl rfl rfl ?_
    refine am_q_call rfl rfl (hc3) rfl ?_
    refine am_q_aload_n rfl rfl ?_
    refine am_q_gr rfl rfl rfl ?_
    refine am_q_aload_n rfl rfl ?_
    refine am_q_gr rfl rfl rfl ?_
    refine am_q_gr rfl rfl rfl ?_
    refine am_q_call rfl rfl (s_agrees _ n ν hO hS3 hN _ hwa) rfl ?_
    refine am_q_if_eqB rfl (fun c_53 => ?_) (fun c_53 => ?_)
    · have hno : ftB V S pl = false := c_53
      refine am_q_iinc [some _, some _, some _, _] rfl (c := nI 1) rfl rfl (Nat.le_of_ble_eq_true rfl) (nI_add _ _) rfl ?_
      refine am_q_goto rfl ?_
      rw [ftF_n hno]
      have e2 := ih (j + 1) μ3 x T o3 (by omega) hall2 ⟨fr_tr hf hf3, hi3⟩ hT3
      refine am_w_mono (fun y ⟨μ', h1, h2, h3⟩ => ⟨μ', h1, h2, fun p hp w hw => ?_⟩) e2
      rw [h3 p hp w hw]
      dsimp only
      rw [tlF_n hno]
    · have hye : ftB V S pl = true := c_53
      refine am_q_iinc [some _, some _, some _, _] rfl (c := nI 1) rfl rfl (Nat.le_of_ble_eq_true rfl) (nI_add _ _) rfl ?_
      refine am_q_iconst (v := nI 0) rfl rfl ?_
      refine am_q_istore_n [some _, some _, some _, some _] rfl (Nat.le_of_ble_eq_true rfl) rfl ?_
      have e : am_w _ _ _ _ _ _ _ _ := s_tallyI d (x + 1) j n ν hV3 hO (fun p => wAt V pl p (vN V)) hwa T (fun y => ∃ μ', y = (some (.int (nI (x + ftF V S (pl :: vs)))), am_hp n μ' ν) ∧ fr μ μ' ∧ tR (vP V) (μ' 132) (fun p w => T p w + tlF V S (pl :: vs) p w)) (fun g o3 hg => ?_) (vP V) 0 (μ3 132) (by omega) (fun p hp w hw => by rw [hT3 p hp w hw]; dsimp only; rw [if_neg (by omega), Nat.add_zero])
      rw [am_rw_self] at e
      exact e
      refine am_q_iinc [some _, some _, some _, _] rfl (c := nI 1) rfl rfl (Nat.le_of_ble_eq_true rfl) (nI_add _ _) rfl ?_
      refine am_q_goto rfl ?_
      rw [ftF_y hye, ← Nat.add_assoc]
      have hfg : fr μ3 (am_rw μ3 132 g) := fr_rw (fun k => by omega)
      have e2 := ih (j + 1) (am_rw μ3 132 g) (x + 1) _ o3 (by omega) hall2 ⟨fr_tr hf (fr_tr hf3 hfg), xIt_rows (fun i a b => by funext k; unfold am_rw; rw [if_neg (by omega)]) hi3⟩ (show tR (vP V) (am_rw μ3 132 g 132) _ from hg)
      refine am_w_mono (fun y ⟨μ', h1, h2, h3⟩ => ⟨μ', h1, h2, fun p hp w hw => ?_⟩) e2
      rw [h3 p hp w hw]
      dsimp only
      rw [tlF_y hye, Nat.add_assoc]
