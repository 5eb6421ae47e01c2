theorem xIt_rows {V : sVal} {ms : List Nat} {μ μ' : am_M2} {ws : List (Nat → Option Nat)} (h : ∀ i, 120 ≤ i → i ≤ 123 → μ' i = μ i) (hi : xIt V ms μ ws) : xIt V ms μ' ws := by
  obtain ⟨h1, h2⟩ := hi
  refine ⟨xMv_ne (by rw [h 120 (by omega) (by omega)]) (fun k => by rw [h 121 (by omega) (by omega)]) h1, ?_⟩
  rw [h 120 (by omega) (by omega)]
  rcases h2 with ⟨a1, fs, a2, a3, a4, a5, a6⟩ | ⟨a1, pl, a2, a3, a4, a5⟩
  · refine Or.inl ⟨a1, fs, a2, xFs_row fs (fun k _ => by rw [h 122 (by omega) (by omega)]) a3, ?_, a5, a6⟩
    cases fs with
    | nil => trivial
    | cons f fs => intro s hs hne; rw [h 123 (by omega) (by omega)]; exact a4 s hs hne
  · exact Or.inr ⟨a1, pl, a2, a3, a4, fun s hs => by rw [h 123 (by omega) (by omega)]; exact a5 s hs⟩
/-- which weight a PLACE has -/
def wAt (V : sVal) (pl : Nat → Option Nat) (p : Nat) : Nat → Nat := lpF (fun s x => if pl s = some p then vW V s else x) 0
theorem wAt_le {V : sVal} (hO : vOk V) (pl : Nat → Option Nat) (p : Nat) : ∀ n, n ≤ vN V → wAt V pl p n ≤ 41
  | 0, _ => Nat.zero_le _
  | n + 1, h => by
    have := wAt_le hO pl p n (by omega)
    have h2 := vW_le hO (s := n) (by omega)
    rw [wAt, lpF_s]
    split
    · exact h2
    · exact this
theorem s_weighL (d : Nat) (n : Nat) {V : sVal} {pl : Nat → Option Nat} {μ : am_M2} (ν : am_N2) (hV : xVal μ V) (hO : vOk V) (h8 : sPl8 pl) (hs : ∀ s, s < 6 → μ 123 s = sn_spot (pl s)) : ∀ (m j : Nat) (g : Nat → Int32), j + m = vN V → (∀ p, p < 8 → g p = nI (wAt V pl p j)) → am_w (d + 2) (Option.none : Option FieldType) am_g159 10 [some (.ref 120), some (.int (nI j))] [] (am_hp n (am_rw μ 124 g) ν) (fun y => ∃ (μ' : am_M2), y = (none, am_hp n μ' ν) ∧ (∀ i, i ≠ 124 → μ' i = μ i) ∧ ∀ p, p < 8 → μ' 124 p = nI (wAt V pl p (vN V))) := by
  intro m
  induction m with
  | zero =>
    intro j g hj hinv
    have h6 := hO.1.1
    refine am_q_iload_n rfl rfl ?_
    refine am_q_aload_n rfl rfl ?_
    refine am_q_gr rfl rfl rfl ?_
    refine am_q_gi rfl rfl rfl hV.1.1 ?_
    refine am_q_igeN rfl (by omega) (by omega) (fun c_18 => ?_) (fun c_18 => absurd c_18 (by omega))
    refine am_q_return rfl rfl ?_
    exact ⟨_, rfl, fun i hi => by funext k; unfold am_rw; rw [if_neg hi], fun p hp => by unfold am_rw; rw [if_pos rfl, hinv p hp, show j = vN V by omega]⟩
  | succ m ih =>
    intro j g hj hinv
    have h6 := hO.1.1
    refine am_q_iload_n rfl rfl ?_
    refine am_q_aload_n rfl rfl ?_
    refine am_q_gr rfl rfl rfl ?_
    refine am_q_gi rfl rfl rfl hV.1.1 ?_
    refine am_q_igeN rfl (by omega) (by omega) (fun c_18 => absurd c_18 (by omega)) (fun c_18 => ?_)
    refine am_q_aload_n rfl rfl ?_
    refine am_q_gr rfl rfl rfl ?_
    refine am_q_iload_n rfl rfl ?_
    refine am_q_iald rfl rfl (by first | exact am_ix_nI (by omega) (by omega) | rfl) (hs _ (by omega)) ?_
    refine am_q_if_eq rfl (fun c_27 => ?_) (fun c_27 => ?_)
    · have hq := sn_spot_0 (h8 j (by omega)) c_27
      have i1 : ∀ p, p < 8 → g p = nI (wAt V pl p (j + 1)) := fun p hp => by rw [wAt, lpF_s, if_neg (by rw [hq]; exact fun e => by cases e)]; exact hinv p hp
      refine am_q_iinc [some _, some _] rfl (c := nI 1) rfl rfl (Nat.le_of_ble_eq_true rfl) (nI_add _ _) rfl ?_
      refine am_q_goto rfl ?_
      exact ih (j + 1) _ (by omega) i1
    · obtain ⟨q, hq⟩ := sn_spot_n0 c_27
      have hq8 := h8 j (by omega) q hq
      have i1 : ∀ p, p < 8 → upd g q (nI (vW V j)) p = nI (wAt V pl p (j + 1)) := fun p hp => by (rw [wAt, lpF_s]; by_cases z : p = q; rw [z, pk_us, if_pos hq]; rw [pk_un z, if_neg (by rw [hq]; exact fun e => z (by cases e; rfl))]; exact hinv p hp)
      refine am_q_aload_n rfl rfl ?_
      refine am_q_gr rfl rfl rfl ?_
      refine am_q_aload_n rfl rfl ?_
      refine am_q_gr rfl rfl rfl ?_
      refine am_q_iload_n rfl rfl ?_
      refine am_q_iald rfl rfl (by first | exact am_ix_nI (by omega) (by omega) | rfl) ((hs _ (by omega)).trans (show _ = nI (2 ^ q) by rw [hq]; rfl)) ?_
      refine am_q_call rfl rfl (s_placeOf1 _ q (by omega) _) rfl ?_
      refine am_q_aload_n rfl rfl ?_
      refine am_q_gr rfl rfl rfl ?_
      refine am_q_gr rfl rfl rfl ?_
      refine am_q_iload_n rfl rfl ?_
      refine am_q_iald rfl rfl (by first | exact am_ix_nI (by omega) (by omega) | rfl) (hV.2.2.2.1 _ (by omega)).2.2.2.1 ?_
      refine am_q_iast rfl rfl (by first | exact am_ix_nI (by omega) (by omega) | rfl) rfl ?_
      rw [am_rw_up]
      refine am_q_iinc [some _, some _] rfl (c := nI 1) rfl rfl (Nat.le_of_ble_eq_true rfl) (nI_add _ _) rfl ?_
      refine am_q_goto rfl ?_
      exact ih (j + 1) _ (by omega) i1

/-- StoneSecrets$Ways.weigh()V -/
theorem s_weigh (d : Nat) (n : Nat) {V : sVal} {pl : Nat → Option Nat} {μ : am_M2} (ν : am_N2) (hV : xVal μ V) (hO : vOk V) (h8 : sPl8 pl) (hs : ∀ s, s < 6 → μ 123 s = sn_spot (pl s)) : ∃ (μ' : am_M2), am_run (d + 3) 159 [.ref 120] (am_hp n μ ν) = some (none, am_hp n μ' ν) ∧ (∀ i, i ≠ 124 → μ' i = μ i) ∧ ∀ p, p < 8 → μ' 124 p = nI (wAt V pl p (vN V)) := by
  have key : ∃ r, am_run (d + 3) 159 [.ref 120] (am_hp n μ ν) = some r ∧ ∃ (μ' : am_M2), r = (none, am_hp n μ' ν) ∧ (∀ i, i ≠ 124 → μ' i = μ i) ∧ ∀ p, p < 8 → μ' 124 p = nI (wAt V pl p (vN V)) := am_run_wE (k := 159) (d := d + 2) rfl rfl (Nat.le_of_ble_eq_true rfl) [some (.ref 120), none] rfl (by
    refine am_q_aload_n rfl rfl ?_
    refine am_q_gr rfl rfl rfl ?_
    refine am_q_iconst (v := nI 0) rfl rfl ?_
    refine am_q_call rfl rfl (s_fill _ n 124 8 (nI 0) μ ν _ rfl (by decide)) rfl ?_
    refine am_q_iconst (v := nI 0) rfl rfl ?_
    refine am_q_istore_n [some _, some _] rfl (Nat.le_of_ble_eq_true rfl) rfl ?_
    have e := s_weighL d n ν hV hO h8 hs (vN V) 0 (am_fl μ 124 (nI 0) 8 124) (by omega) (fun p hp => by simp [am_fl, hp]; rfl)
    rw [show am_rw μ 124 (am_fl μ 124 (nI 0) 8 124) = am_fl μ 124 (nI 0) 8 by funext i k; unfold am_rw am_fl; by_cases z : i = 124; subst z; rfl; simp [z]] at e
    exact e)
  obtain ⟨r, h1, μ', h2, h3⟩ := key
  exact ⟨μ', by rw [h1, h2], h3⟩

def agr (S : sSeen) (w : Nat → Nat) : Nat → Bool := lpF (fun i b => b && (decide (S.2.2.1 i ≤ w (S.2.1 i)) == S.2.2.2 i)) true
theorem agr_no {S : sSeen} {w : Nat → Nat} {n : Nat} (h : agr S w n = false) : ∀ m, agr S w (n + m) = false
  | 0 => h
  | m + 1 => by rw [← Nat.add_assoc, agr, lpF_s]; have := agr_no h m; rw [agr] at this; rw [this]; rfl
def nOk (V : sVal) (S : sSeen) : Prop := S.1 ≤ 8 ∧ ∀ i, i < S.1 → S.2.1 i < vP V ∧ 1 ≤ S.2.2.1 i ∧ S.2.2.1 i ≤ 60
theorem s_agrL (d : Nat) (n : Nat) {S : sSeen} {V : sVal} {μ : am_M2} (ν : am_N2) (hO : vOk V) (hS : xSeen μ 117 S) (hN : nOk V S) (w : Nat → Nat) (hw : ∀ p, p < 8 → w p ≤ 41 ∧ μ 124 p = nI (w p)) : ∀ (m j : Nat) (o3 : Option Value), j + m = S.1 → agr S w j = true → am_w (d + 1) (Option.some FieldType.boolean) am_g160 2 [some (.ref 117), some (.ref 124), some (.int (nI j)), o3] [] (am_hp n μ ν) (fun y => y = (some (.int (sB (agr S w S.1))), am_hp n μ ν)) := by
  intro m
  induction m with
  | zero =>
    intro j o3 hj hinv
    have hS8 := hS.2.1
    obtain ⟨u, hu, hu2, hu3⟩ := hS.2.2.2
    refine am_q_iload_n rfl rfl ?_
    refine am_q_aload_n rfl rfl ?_
    refine am_q_gi rfl rfl rfl hS.1 ?_
    refine am_q_igeN rfl (by omega) (by omega) (fun c_7 => ?_) (fun c_7 => absurd c_7 (by omega))
    refine am_q_iconst (v := nI 1) rfl rfl ?_
    refine am_q_ireturn rfl rfl rfl ?_
    rw [← show j = S.1 by omega, hinv]; rfl
  | succ m ih =>
    intro j o3 hj hinv
    have hS8 := hS.2.1
    obtain ⟨u, hu, hu2, hu3⟩ := hS.2.2.2
    have hNj := hN.2 j (by omega)
    have hP := hO.1.2.1
    have hwj := hw (S.2.1 j) (by omega)
    have e1 : agr S w (j + 1) = (agr S w j && (decide (S.2.2.1 j ≤ w (S.2.1 j)) == S.2.2.2 j)) := rfl
    rw [hinv, Bool.true_and, ← hu3 j (by omega)] at e1
    refine am_q_iload_n rfl rfl ?_
    refine am_q_aload_n rfl rfl ?_
    refine am_q_gi rfl rfl rfl hS.1 ?_
    refine am_q_igeN rfl (by omega) (by omega) (fun c_7 => absurd c_7 (by omega)) (fun c_7 => ?_)
    refine am_q_aload_n rfl rfl ?_
    refine am_q_aload_n rfl rfl ?_
    refine am_q_gr rfl rfl rfl ?_
    refine am_q_iload_n rfl rfl ?_
    refine am_q_iald rfl rfl (by first | exact am_ix_nI (by omega) (by omega) | rfl) (hS.2.2.1 _ (by omega)).1 ?_
    refine am_q_iald rfl rfl (by first | exact am_ix_nI (by omega) (by omega) | rfl) hwj.2 ?_
    refine am_q_aload_n rfl rfl ?_
    refine am_q_gr rfl rfl rfl ?_
    refine am_q_iload_n rfl rfl ?_
    refine am_q_iald rfl rfl (by first | exact am_ix_nI (by omega) (by omega) | rfl) (hS.2.2.1 _ (by omega)).2 ?_
    refine am_q_iltN rfl (by omega) (by omega) (fun c_24 => ?_) (fun c_24 => ?_)
    · rw [decide_eq_false (by omega)] at e1
      refine am_q_iconst (v := nI 0) rfl rfl ?_
      refine am_q_istore_n [some _, some _, some _, some _] rfl (Nat.le_of_ble_eq_true rfl) rfl ?_
      refine am_q_iload_n rfl rfl ?_
      refine am_q_aload_n rfl rfl ?_
      refine am_q_gi rfl rfl rfl hu2 ?_
      refine am_q_iload_n rfl rfl ?_
      refine am_q_call rfl rfl (s_hasN _ _ _ (by omega) (by omega) _) rfl ?_
      refine am_q_icmp_eq rfl (fun c_42 => ?_) (fun c_42 => ?_)
      · refine am_q_iinc [some _, some _, some _, some _] rfl (c := nI 1) rfl rfl (Nat.le_of_ble_eq_true rfl) (nI_add _ _) rfl ?_
        refine am_q_goto rfl ?_
        (refine ih (j + 1) _ (by omega) ?_; rw [e1]; revert c_42; cases u.testBit j <;> (intro c_42; first | rfl | exact absurd c_42 (by decide)))
      · refine am_q_iconst (v := nI 0) rfl rfl ?_
        refine am_q_ireturn rfl rfl rfl ?_
        have e2 : agr S w (j + 1) = false := by rw [e1]; revert c_42; cases u.testBit j <;> (intro c_42; first | rfl | exact absurd rfl c_42)
        have e3 := agr_no e2 m
        rw [show j + 1 + m = S.1 by omega] at e3
        rw [e3]; rfl
    · rw [decide_eq_true (by omega)] at e1
      refine am_q_iconst (v := nI 1) rfl rfl ?_
      refine am_q_goto rfl ?_
      refine am_q_istore_n [some _, some _, some _, some _] rfl (Nat.le_of_ble_eq_true rfl) rfl ?_
      refine am_q_iload_n rfl rfl ?_
      refine am_q_aload_n rfl rfl ?_
      refine am_q_gi rfl rfl rfl hu2 ?_
      refine am_q_iload_n rfl rfl ?_
      refine am_q_call rfl rfl (s_hasN _ _ _ (by omega) (by omega) _) rfl ?_
      refine am_q_icmp_eq rfl (fun c_42 => ?_) (fun c_42 => ?_)
      · refine am_q_iinc [some _, some _, some _, some _] rfl (c := nI 1) rfl rfl (Nat.le_of_ble_eq_true rfl) (nI_add _ _) rfl ?_
        refine am_q_goto rfl ?_
        (refine ih (j + 1) _ (by omega) ?_; rw [e1]; revert c_42; cases u.testBit j <;> (intro c_42; first | rfl | exact absurd c_42 (by decide)))
      · refine am_q_iconst (v := nI 0) rfl rfl ?_
        refine am_q_ireturn rfl rfl rfl ?_
        have e2 : agr S w (j + 1) = false := by rw [e1]; revert c_42; cases u.testBit j <;> (intro c_42; first | rfl | exact absurd rfl c_42)
        have e3 := agr_no e2 m
        rw [show j + 1 + m = S.1 by omega] at e3
        rw [e3]; rfl

/-- StoneSecrets$Seen.agrees([I)Z -/
theorem s_agrees (d : Nat) (n : Nat) {S : sSeen} {V : sVal} {μ : am_M2} (ν : am_N2) (hO : vOk V) (hS : xSeen μ 117 S) (hN : nOk V S) (w : Nat → Nat) (hw : ∀ p, p < 8 → w p ≤ 41 ∧ μ 124 p = nI (w p)) : am_run (d + 2) 160 [.ref 117, .ref 124] (am_hp n μ ν) = some (some (.int (sB (agr S w S.1))), am_hp n μ ν) := by
  refine am_r160 (d := d + 1) (Nat.le_of_ble_eq_true rfl) [some (.ref 117), some (.ref 124), none, none] rfl ?_
  refine am_q_iconst (v := nI 0) rfl rfl ?_
  refine am_q_istore_n [some _, some _, some _, none] rfl (Nat.le_of_ble_eq_true rfl) rfl ?_
  exact s_agrL d n ν hO hS hN w hw S.1 0 none (by omega) rfl
