theorem in_rng {w : Int32} {lo hi : Nat} (h1 : nI lo ≤ w) (h2 : w ≤ nI hi) (hh : hi < 2 ^ 31) (hl : lo < 2 ^ 31) : ∃ k, lo ≤ k ∧ k ≤ hi ∧ w = nI k := by
  have h0 : ¬ w < 0 := fun q => by
    have a := Int32.lt_iff_toInt_lt.mp q
    have b := Int32.le_iff_toInt_le.mp h1
    rw [nI_toInt hl] at b
    have c : (0 : Int32).toInt = 0 := by decide
    omega
  obtain ⟨k, hk, rfl⟩ := nI_of h0
  exact ⟨k, (nI_leI hl hk).mp h1, (nI_leI hk hh).mp h2, rfl⟩
def rIn (w : Int32) (lo hi : Nat) : Bool := decide (nI lo ≤ w ∧ w ≤ nI hi)
theorem rIn_lo {w : Int32} {lo hi : Nat} (h : w < nI lo) : rIn w lo hi = false := decide_eq_false fun q => by
  have a := Int32.lt_iff_toInt_lt.mp h
  have b := Int32.le_iff_toInt_le.mp q.1
  omega
theorem rIn_hi {w : Int32} {lo hi : Nat} (h : nI hi < w) : rIn w lo hi = false := decide_eq_false fun q => by
  have a := Int32.lt_iff_toInt_lt.mp h
  have b := Int32.le_iff_toInt_le.mp q.2
  omega
theorem rIn_in {w : Int32} {lo hi : Nat} (h1 : ¬ w < nI lo) (h2 : ¬ nI hi < w) : rIn w lo hi = true := decide_eq_true ⟨fa_of_nlt h1, fa_of_nlt h2⟩
theorem rIn_k {w : Int32} {lo hi : Nat} (h : rIn w lo hi = true) (hh : hi < 2 ^ 31) (hl : lo < 2 ^ 31) : ∃ k, lo ≤ k ∧ k ≤ hi ∧ w = nI k :=
  in_rng (of_decide_eq_true h).1 (of_decide_eq_true h).2 hh hl
theorem rIn_nI {k lo hi : Nat} (hk : k < 2 ^ 31) (hl : lo < 2 ^ 31) (hh : hi < 2 ^ 31) : rIn (nI k) lo hi = (decide (lo ≤ k) && decide (k ≤ hi)) := by
  unfold rIn
  simp [nI_leI hl hk, nI_leI hk hh]
def seeOk (V : sVal) (S : sSeen) (p w : Int32) : Bool := (am_ix p (vP V)).isSome && rIn w 1 60 && decide (S.1 < 8)
def seeDo (S : sSeen) (p w : Nat) (b : Bool) : sSeen := (S.1 + 1, fup S.2.1 S.1 p, fup S.2.2.1 S.1 w, fup S.2.2.2 S.1 b)
def seeS (V : sVal) (S : sSeen) (p w : Int32) (b : Bool) : sSeen := if seeOk V S p w = true then seeDo S (ik p) (ik w) b else S
theorem sn_ups : ∀ s, s < 8 → ∀ u, u < 256 → (nI u &&& (nI (2 ^ s) ^^^ -1) = nI (u &&& (255 - 2 ^ s))) ∧ (u &&& (255 - 2 ^ s)) < 256 := by decide +kernel
theorem sn_ups2 : ∀ s, s < 8 → ∀ u, u < 256 → ∀ i, i < s → (u &&& (255 - 2 ^ s)).testBit i = u.testBit i ∧ (u &&& (255 - 2 ^ s) ||| 2 ^ s).testBit i = u.testBit i := by decide +kernel
theorem sn_ups3 : ∀ s, s < 8 → ∀ u, u < 256 → (u &&& (255 - 2 ^ s)).testBit s = false ∧ (u &&& (255 - 2 ^ s) ||| 2 ^ s).testBit s = true ∧ (u &&& (255 - 2 ^ s) ||| 2 ^ s) < 256 := by decide +kernel
theorem s_add0 (d : Nat) (x p w : Int32) (n : Nat) (μ : am_M2) (ν : am_N2) (h8 : μ 117 3 = nI 8) : am_run (d + 1) 156 [.ref 117, .int p, .int w, .int x] (am_hp n μ ν) = some (some (.int (sB false)), am_hp n μ ν) := by
  refine am_r156 (d := d + 0) (Nat.le_of_ble_eq_true rfl) [some (.ref 117), some (.int p), some (.int w), some (.int x)] rfl ?_
  refine am_q_aload_n rfl rfl ?_
  refine am_q_gi rfl rfl rfl h8 ?_
  refine am_q_bipush (v := nI 8) rfl rfl ?_
  refine am_q_iltN rfl (by omega) (by omega) (fun c_6 => absurd c_6 (by omega)) (fun c_6 => ?_)
  refine am_q_iconst (v := nI 0) rfl rfl ?_
  refine am_q_ireturn rfl rfl rfl ?_
  rfl

theorem s_add1t (d : Nat) (p w : Int32) (u : Nat) (n : Nat) {S : sSeen} (μ : am_M2) (ν : am_N2) (h3 : μ 117 3 = nI S.1) (h8 : S.1 < 8) (hu : u < 256) (h2 : μ 117 2 = nI u) : am_run (d + 1) 156 [.ref 117, .int p, .int w, .int (sB (true))] (am_hp n μ ν) = some (some (.int (sB true)), am_hp n (am_up (am_up (am_up (am_up μ 118 S.1 p) 119 S.1 w) 117 2 (nI (u &&& (255 - 2 ^ S.1) ||| 2 ^ S.1))) 117 3 (nI (S.1 + 1))) ν) := by
  have q := (sn_ups S.1 h8 u hu).1
  refine am_r156 (d := d + 0) (Nat.le_of_ble_eq_true rfl) [some (.ref 117), some (.int p), some (.int w), some (.int (sB (true)))] rfl ?_
  refine am_q_aload_n rfl rfl ?_
  refine am_q_gi rfl rfl rfl h3 ?_
  refine am_q_bipush (v := nI 8) rfl rfl ?_
  refine am_q_iltN rfl (by omega) (by omega) (fun c_6 => ?_) (fun c_6 => absurd c_6 (by omega))
  refine am_q_aload_n rfl rfl ?_
  refine am_q_gr rfl rfl rfl ?_
  refine am_q_aload_n rfl rfl ?_
  refine am_q_gi rfl rfl rfl h3 ?_
  refine am_q_iload_n rfl rfl ?_
  refine am_q_iast rfl rfl (by first | exact am_ix_nI (by omega) (by omega) | rfl) rfl ?_
  refine am_q_aload_n rfl rfl ?_
  refine am_q_gr rfl rfl rfl ?_
  refine am_q_aload_n rfl rfl ?_
  refine am_q_gi rfl rfl rfl h3 ?_
  refine am_q_iload_n rfl rfl ?_
  refine am_q_iast rfl rfl (by first | exact am_ix_nI (by omega) (by omega) | rfl) rfl ?_
  refine am_q_aload_n rfl rfl ?_
  refine am_q_aload_n rfl rfl ?_
  refine am_q_gi rfl rfl rfl h2 ?_
  refine am_q_iconst (v := nI 1) rfl rfl ?_
  refine am_q_aload_n rfl rfl ?_
  refine am_q_gi rfl rfl rfl h3 ?_
  refine am_q_ishl rfl (sn_shl1 (by omega)) ?_
  refine am_q_iconst (v := -1) rfl rfl ?_
  refine am_q_ixor rfl rfl ?_
  refine am_q_iand rfl q ?_
  refine am_q_iload_n rfl rfl ?_
  refine am_q_if_eqB rfl (fun c_46 => by simp at c_46) (fun c_46 => ?_)
  refine am_q_iconst (v := nI 1) rfl rfl ?_
  refine am_q_aload_n rfl rfl ?_
  refine am_q_gi rfl rfl rfl h3 ?_
  refine am_q_ishl rfl (sn_shl1 (by omega)) ?_
  refine am_q_goto rfl ?_
  refine am_q_ior rfl (sn_or _ _) ?_
  refine am_q_pi rfl rfl rfl (Or.inl rfl) ?_
  refine am_q_aload_n rfl rfl ?_
  refine am_q_dupr rfl ?_
  refine am_q_gi rfl rfl rfl h3 ?_
  refine am_q_iconst (v := nI 1) rfl rfl ?_
  refine am_q_iadd rfl (nI_add _ _) ?_
  refine am_q_pi rfl rfl rfl (Or.inl rfl) ?_
  refine am_q_iconst (v := nI 1) rfl rfl ?_
  refine am_q_ireturn rfl rfl rfl ?_
  rfl

theorem s_add1f (d : Nat) (p w : Int32) (u : Nat) (n : Nat) {S : sSeen} (μ : am_M2) (ν : am_N2) (h3 : μ 117 3 = nI S.1) (h8 : S.1 < 8) (hu : u < 256) (h2 : μ 117 2 = nI u) : am_run (d + 1) 156 [.ref 117, .int p, .int w, .int (sB (false))] (am_hp n μ ν) = some (some (.int (sB true)), am_hp n (am_up (am_up (am_up (am_up μ 118 S.1 p) 119 S.1 w) 117 2 (nI (u &&& (255 - 2 ^ S.1) ||| 0))) 117 3 (nI (S.1 + 1))) ν) := by
  have q := (sn_ups S.1 h8 u hu).1
  refine am_r156 (d := d + 0) (Nat.le_of_ble_eq_true rfl) [some (.ref 117), some (.int p), some (.int w), some (.int (sB (false)))] rfl ?_
  refine am_q_aload_n rfl rfl ?_
  refine am_q_gi rfl rfl rfl h3 ?_
  refine am_q_bipush (v := nI 8) rfl rfl ?_
  refine am_q_iltN rfl (by omega) (by omega) (fun c_6 => ?_) (fun c_6 => absurd c_6 (by omega))
  refine am_q_aload_n rfl rfl ?_
  refine am_q_gr rfl rfl rfl ?_
  refine am_q_aload_n rfl rfl ?_
  refine am_q_gi rfl rfl rfl h3 ?_
  refine am_q_iload_n rfl rfl ?_
  refine am_q_iast rfl rfl (by first | exact am_ix_nI (by omega) (by omega) | rfl) rfl ?_
  refine am_q_aload_n rfl rfl ?_
  refine am_q_gr rfl rfl rfl ?_
  refine am_q_aload_n rfl rfl ?_
  refine am_q_gi rfl rfl rfl h3 ?_
  refine am_q_iload_n rfl rfl ?_
  refine am_q_iast rfl rfl (by first | exact am_ix_nI (by omega) (by omega) | rfl) rfl ?_
  refine am_q_aload_n rfl rfl ?_
  refine am_q_aload_n rfl rfl ?_
  refine am_q_gi rfl rfl rfl h2 ?_
  refine am_q_iconst (v := nI 1) rfl rfl ?_
  refine am_q_aload_n rfl rfl ?_
  refine am_q_gi rfl rfl rfl h3 ?_
  refine am_q_ishl rfl (sn_shl1 (by omega)) ?_
  refine am_q_iconst (v := -1) rfl rfl ?_
  refine am_q_ixor rfl rfl ?_
  refine am_q_iand rfl q ?_
  refine am_q_iload_n rfl rfl ?_
  refine am_q_if_eqB rfl (fun c_46 => ?_) (fun c_46 => by simp at c_46)
  refine am_q_iconst (v := nI 0) rfl rfl ?_
  refine am_q_ior rfl (sn_or _ _) ?_
  refine am_q_pi rfl rfl rfl (Or.inl rfl) ?_
  refine am_q_aload_n rfl rfl ?_
  refine am_q_dupr rfl ?_
  refine am_q_gi rfl rfl rfl h3 ?_
  refine am_q_iconst (v := nI 1) rfl rfl ?_
  refine am_q_iadd rfl (nI_add _ _) ?_
  refine am_q_pi rfl rfl rfl (Or.inl rfl) ?_
  refine am_q_iconst (v := nI 1) rfl rfl ?_
  refine am_q_ireturn rfl rfl rfl ?_
  rfl

theorem s_add1 (d : Nat) (p w : Nat) (b : Bool) (n : Nat) {S : sSeen} {μ : am_M2} (ν : am_N2) (hS : xSeen μ 117 S) (h8 : S.1 < 8) : ∃ μ', am_run (d + 1) 156 [.ref 117, .int (nI p), .int (nI w), .int (sB b)] (am_hp n μ ν) = some (some (.int (sB true)), am_hp n μ' ν) ∧ xSeen μ' 117 (seeDo S p w b) ∧ ∀ i, i < 117 ∨ 120 ≤ i → μ' i = μ i := by
  obtain ⟨h1, h2, h3, u, h4, h5, h6⟩ := hS
  have key : ∀ v, v < 256 → (∀ i, i < S.1 → v.testBit i = u.testBit i) → v.testBit S.1 = b → xSeen (am_up (am_up (am_up (am_up μ 118 S.1 (nI p)) 119 S.1 (nI w)) 117 2 (nI v)) 117 3 (nI (S.1 + 1))) 117 (seeDo S p w b) ∧ ∀ i, i < 117 ∨ 120 ≤ i → (am_up (am_up (am_up (am_up μ 118 S.1 (nI p)) 119 S.1 (nI w)) 117 2 (nI v)) 117 3 (nI (S.1 + 1))) i = μ i := by
    intro v hv hvi hvs
    refine ⟨⟨by simp [am_up, seeDo], by simp [seeDo]; omega, fun i hi => ?_, v, hv, by simp [am_up], fun i hi => ?_⟩, fun i hi => ?_⟩
    · have hi' : i < S.1 + 1 := hi
      by_cases z : i = S.1
      · subst z; simp [am_up, seeDo, fup]
      · have := h3 i (by omega)
        simp [am_up, seeDo, fup, z, this.1, this.2]
    · have hi' : i < S.1 + 1 := hi
      by_cases z : i = S.1
      · subst z; simp [seeDo, fup, hvs]
      · simp only [seeDo, fup, if_neg z]; rw [hvi i (by omega)]; exact h6 i (by omega)
    · funext k; simp [am_up, show ¬ i = 117 by omega, show ¬ i = 118 by omega, show ¬ i = 119 by omega]
  cases b with
  | true =>
    have q := key (u &&& (255 - 2 ^ S.1) ||| 2 ^ S.1) (sn_ups3 S.1 h8 u h4).2.2 (fun i hi => (sn_ups2 S.1 h8 u h4 i hi).2) (sn_ups3 S.1 h8 u h4).2.1
    exact ⟨_, s_add1t d (nI p) (nI w) u n μ ν h1 h8 h4 h5, q.1, q.2⟩
  | false =>
    have q := key (u &&& (255 - 2 ^ S.1) ||| 0) (by rw [Nat.or_zero]; exact (sn_ups S.1 h8 u h4).2) (fun i hi => by rw [Nat.or_zero]; exact (sn_ups2 S.1 h8 u h4 i hi).1) (by rw [Nat.or_zero]; exact (sn_ups3 S.1 h8 u h4).1)
    exact ⟨_, s_add1f d (nI p) (nI w) u n μ ν h1 h8 h4 h5, q.1, q.2⟩
theorem s_addX (d : Nat) (p w : Nat) (b : Bool) (n : Nat) {S : sSeen} {μ : am_M2} (ν : am_N2) (hS : xSeen μ 117 S) : ∃ μ', am_run (d + 1) 156 [.ref 117, .int (nI p), .int (nI w), .int (sB b)] (am_hp n μ ν) = some (some (.int (sB (decide (S.1 < 8)))), am_hp n μ' ν) ∧ xSeen μ' 117 (if S.1 < 8 then seeDo S p w b else S) ∧ ∀ i, i < 117 ∨ 120 ≤ i → μ' i = μ i := by
  by_cases h : S.1 < 8
  · rw [decide_eq_true h, if_pos h]; exact s_add1 d p w b n ν hS h
  · rw [decide_eq_false h, if_neg h]
    exact ⟨μ, s_add0 d (sB b) (nI p) (nI w) n μ ν (by rw [← show S.1 = 8 by have := hS.2.1; omega]; exact hS.1), hS, fun _ _ => rfl⟩
/-- StoneSecrets.see(IIZ)Z -/
theorem x_see (d : Nat) (p w : Int32) (b : Bool) (n : Nat) {V : sVal} {W : sWall} {U : List sWall} {K : Nat → Option (sWall × sSeen)} {S : sSeen} {Y : sYear} {μ : am_M2} (ν : am_N2) (hR : xR μ V W U K S Y) (hO : vOk V) (hI : sI (vN V) (vP V) W.1 W.2.1) (ht : W.2.2 < 2 ^ 20) : ∃ (μ' : am_M2), am_run (d + 3) 155 [.ref 2, .int p, .int w, .int (sB (b))] (am_hp n μ ν) = some (some (.int (sB (seeOk V S p w))), am_hp n μ' ν) ∧ xR μ' V W U K (seeS V S p w b) Y ∧ frX μ μ' := by
  obtain ⟨hV, hW, hU, hK, hS, hY⟩ := hR
  have h6 := hO.1.1
  have hP8 := hO.1.2.1
  have h8 := sI_8 hO hI
  have hR : xR μ V W U K S Y := ⟨hV, hW, hU, hK, hS, hY⟩
  have key : ∃ r, am_run (d + 3) 155 [.ref 2, .int p, .int w, .int (sB (b))] (am_hp n μ ν) = some r ∧ ∃ (μ' : am_M2), r = (some (.int (sB (seeOk V S p w))), am_hp n μ' ν) ∧ xR μ' V W U K (seeS V S p w b) Y ∧ frX μ μ' := am_run_wE (k := 155) (d := d + 2) rfl rfl (Nat.le_of_ble_eq_true rfl) [some (.ref 2), some (.int p), some (.int w), some (.int (sB (b)))] rfl (by
    refine am_q_aload_n rfl rfl ?_
    refine am_q_gr rfl rfl rfl ?_
    refine am_q_iload_n rfl rfl ?_
    refine am_q_call rfl rfl (s_hasPlace _ _ _ _ hV.1) rfl ?_
    refine am_q_if_eqB rfl (fun c_8 => ?_) (fun c_8 => ?_)
    · have hno : seeOk V S p w = false := by simp [seeOk, c_8]
      refine am_q_iconst (v := nI 0) rfl rfl ?_
      refine am_q_ireturn rfl rfl rfl ?_
      exact ⟨_, by rw [hno]; rfl, by rw [seeS, if_neg (by simp [hno])]; exact hR, frX_rf _⟩
    · refine am_q_iload_n rfl rfl ?_
      refine am_q_iconst (v := nI 1) rfl rfl ?_
      refine am_q_icmp_lt rfl (fun c_13 => ?_) (fun c_13 => ?_)
      · have hno : seeOk V S p w = false := by simp [seeOk, rIn_lo c_13]
        refine am_q_iconst (v := nI 0) rfl rfl ?_
        refine am_q_ireturn rfl rfl rfl ?_
        exact ⟨_, by rw [hno]; rfl, by rw [seeS, if_neg (by simp [hno])]; exact hR, frX_rf _⟩
      · refine am_q_iload_n rfl rfl ?_
        refine am_q_bipush (v := nI 60) rfl rfl ?_
        refine am_q_icmp_le rfl (fun c_19 => ?_) (fun c_19 => ?_)
        · obtain ⟨kp, hkp, rfl, -⟩ := isI c_8 (by omega)
          have hrw := rIn_in (lo := 1) (hi := 60) c_13 (fun q => absurd c_19 (by have := (fa_of_lt q).2.1; exact this))
          obtain ⟨kw, hw1, hw2, rfl⟩ := rIn_k hrw (by decide) (by decide)
          have hyes : seeOk V S (nI kp) (nI kw) = decide (S.1 < 8) := by simp [seeOk, c_8, hrw]
          obtain ⟨μ1, hc, hs1, hr1⟩ := s_addX (d + 1) kp kw b n ν hS
          refine am_q_aload_n rfl rfl ?_
          refine am_q_gr rfl rfl rfl ?_
          refine am_q_iload_n rfl rfl ?_
          refine am_q_iload_n rfl rfl ?_
          refine am_q_iload_n rfl rfl ?_
          refine am_q_call rfl rfl (hc) rfl ?_
          refine am_q_ireturn rfl rfl (sB_ok _) ?_
          exact ⟨_, by rw [hyes], by rw [show seeS V S (nI kp) (nI kw) b = (if S.1 < 8 then seeDo S kp kw b else S) by rw [seeS, hyes, ik_nI (by omega), ik_nI (by omega)]; simp]; exact ⟨xVal_rows (fun i q1 q2 => hr1 i (by omega)) hV, xW_rows (fun i q1 q2 => hr1 i (by omega)) hW, xUndo_rows ⟨by rw [hr1 41 (by omega)], by rw [hr1 41 (by omega)]⟩ (fun i q1 q2 => hr1 i (by omega)) hU, xMk_rows (by rw [hr1 41 (by omega)]) (fun i q1 q2 => hr1 i (by omega)) hK, hs1, xYear_rows (fun i q1 q2 => hr1 i (by omega)) hY⟩, fun i q => hr1 i (by omega)⟩
        · have hno : seeOk V S p w = false := by simp [seeOk, rIn_hi (fa_of_nle c_19)]
          refine am_q_iconst (v := nI 0) rfl rfl ?_
          refine am_q_ireturn rfl rfl rfl ?_
          exact ⟨_, by rw [hno]; rfl, by rw [seeS, if_neg (by simp [hno])]; exact hR, frX_rf _⟩)
  obtain ⟨r, h1, μ', h2, h3⟩ := key
  exact ⟨μ', by rw [h1, h2], h3⟩

/-- marks: whether, and what comes of it -/
def mkOk (K : Nat → Option (sWall × sSeen)) (m : Int32) (b : Bool) : Bool := match am_ix m 4 with
  | none => false
  | some k => !b || (K k).isSome
def mkDo (W : sWall) (U : List sWall) (K : Nat → Option (sWall × sSeen)) (S : sSeen) (m : Int32) (b : Bool) : sWall × List sWall × (Nat → Option (sWall × sSeen)) × sSeen := match am_ix m 4 with
  | none => (W, U, K, S)
  | some k => (match b with
    | false => (W, U, fup K k (some (W, S)), S)
    | true => (match K k with
      | none => (W, U, K, S)
      | some x => (x.1, [], K, x.2)))
theorem x_mark_o (d : Nat) (m : Int32) (b : Bool) (n : Nat) (μ : am_M2) (ν : am_N2) (hm : am_ix m 4 = none) : am_run (d + 1) 170 [.ref 2, .int m, .int (sB (b))] (am_hp n μ ν) = some (some (.int (sB false)), am_hp n μ ν) := by
  refine am_r170 (d := d + 0) (Nat.le_of_ble_eq_true rfl) [some (.ref 2), some (.int m), some (.int (sB (b)))] rfl ?_
  refine am_q_iload_n rfl rfl ?_
  refine am_q_if_lt rfl (fun c_1 => ?_) (fun c_1 => ?_)
  · refine am_q_iconst (v := nI 0) rfl rfl ?_
    refine am_q_ireturn rfl rfl rfl ?_
    rfl
  · refine am_q_iload_n rfl rfl ?_
    refine am_q_iconst (v := nI 4) rfl rfl ?_
    refine am_q_icmp_lt rfl (fun c_6 => by rcases sn_ix_out hm (by decide) with q | q; exact absurd q c_1; have a1 := Int32.lt_iff_toInt_lt.mp c_6; have a2 := Int32.le_iff_toInt_le.mp q.2; omega) (fun c_6 => ?_)
    refine am_q_iconst (v := nI 0) rfl rfl ?_
    refine am_q_ireturn rfl rfl rfl ?_
    rfl

theorem x_mark_g0 (d : Nat) (k : Nat) (hk : k < 4) (n : Nat) {V : sVal} {W : sWall} {U : List sWall} {K : Nat → Option (sWall × sSeen)} {S : sSeen} {Y : sYear} {μ : am_M2} (ν : am_N2) (hR : xR μ V W U K S Y) (hO : vOk V) (hI : sI (vN V) (vP V) W.1 W.2.1) (ht : W.2.2 < 2 ^ 20) (hz : (K k).isSome = false) : ∃ (u : Unit), am_run (d + 3) 170 [.ref 2, .int (nI k), .int (sB (true))] (am_hp n μ ν) = some (some (.int (sB false)), am_hp n μ ν) := by
  obtain ⟨-, h⟩ := s_goBack0 d k hk n ν hR hO hI ht hz
  have key : ∃ r, am_run (d + 3) 170 [.ref 2, .int (nI k), .int (sB (true))] (am_hp n μ ν) = some r ∧ ∃ (u : Unit), r = (some (.int (sB false)), am_hp n μ ν) := am_run_wE (k := 170) (d := d + 2) rfl rfl (Nat.le_of_ble_eq_true rfl) [some (.ref 2), some (.int (nI k)), some (.int (sB (true)))] rfl (by
    refine am_q_iload_n rfl rfl ?_
    refine am_q_zltN rfl (by omega) (fun c_1 => absurd c_1 (by omega)) (fun c_1 => ?_)
    refine am_q_iload_n rfl rfl ?_
    refine am_q_iconst (v := nI 4) rfl rfl ?_
    refine am_q_iltN rfl (by omega) (by omega) (fun c_6 => ?_) (fun c_6 => absurd c_6 (by omega))
    refine am_q_iload_n rfl rfl ?_
    refine am_q_if_eqB rfl (fun c_12 => by simp at c_12) (fun c_12 => ?_)
    refine am_q_aload_n rfl rfl ?_
    refine am_q_gr rfl rfl rfl ?_
    refine am_q_iload_n rfl rfl ?_
    refine am_q_aload_n rfl rfl ?_
    refine am_q_gr rfl rfl rfl ?_
    refine am_q_aload_n rfl rfl ?_
    refine am_q_gr rfl rfl rfl ?_
    refine am_q_call rfl rfl (h) rfl ?_
    refine am_q_ireturn rfl rfl (sB_ok _) ?_
    exact ⟨(), rfl⟩)
  obtain ⟨r, h1, u, h2⟩ := key
  exact ⟨u, by rw [h1, h2]⟩

theorem x_mark_g1 (d : Nat) (k : Nat) (hk : k < 4) (W0 : sWall) (S0 : sSeen) (n : Nat) {V : sVal} {W : sWall} {U : List sWall} {K : Nat → Option (sWall × sSeen)} {S : sSeen} {Y : sYear} {μ : am_M2} (ν : am_N2) (hR : xR μ V W U K S Y) (hO : vOk V) (hI : sI (vN V) (vP V) W.1 W.2.1) (ht : W.2.2 < 2 ^ 20) (hz : K k = some (W0, S0)) : ∃ (μ' : am_M2), am_run (d + 3) 170 [.ref 2, .int (nI k), .int (sB (true))] (am_hp n μ ν) = some (some (.int (sB true)), am_hp n μ' ν) ∧ xR μ' V W0 [] K S0 Y ∧ frX μ μ' := by
  obtain ⟨μ1, h, h1, h2⟩ := s_goBack1 d k hk W0 S0 n ν hR hO hI ht hz
  have key : ∃ r, am_run (d + 3) 170 [.ref 2, .int (nI k), .int (sB (true))] (am_hp n μ ν) = some r ∧ ∃ (μ' : am_M2), r = (some (.int (sB true)), am_hp n μ' ν) ∧ xR μ' V W0 [] K S0 Y ∧ frX μ μ' := am_run_wE (k := 170) (d := d + 2) rfl rfl (Nat.le_of_ble_eq_true rfl) [some (.ref 2), some (.int (nI k)), some (.int (sB (true)))] rfl (by
    refine am_q_iload_n rfl rfl ?_
    refine am_q_zltN rfl (by omega) (fun c_1 => absurd c_1 (by omega)) (fun c_1 => ?_)
    refine am_q_iload_n rfl rfl ?_
    refine am_q_iconst (v := nI 4) rfl rfl ?_
    refine am_q_iltN rfl (by omega) (by omega) (fun c_6 => ?_) (fun c_6 => absurd c_6 (by omega))
    refine am_q_iload_n rfl rfl ?_
    refine am_q_if_eqB rfl (fun c_12 => by simp at c_12) (fun c_12 => ?_)
    refine am_q_aload_n rfl rfl ?_
    refine am_q_gr rfl rfl rfl ?_
    refine am_q_iload_n rfl rfl ?_
    refine am_q_aload_n rfl rfl ?_
    refine am_q_gr rfl rfl rfl ?_
    refine am_q_aload_n rfl rfl ?_
    refine am_q_gr rfl rfl rfl ?_
    refine am_q_call rfl rfl (h) rfl ?_
    refine am_q_ireturn rfl rfl (sB_ok _) ?_
    exact ⟨_, rfl, h1, h2⟩)
  obtain ⟨r, h1, μ', h2, h3⟩ := key
  exact ⟨μ', by rw [h1, h2], h3⟩

theorem x_mark_l (d : Nat) (k : Nat) (hk : k < 4) (n : Nat) {V : sVal} {W : sWall} {U : List sWall} {K : Nat → Option (sWall × sSeen)} {S : sSeen} {Y : sYear} {μ : am_M2} (ν : am_N2) (hR : xR μ V W U K S Y) (hO : vOk V) (hI : sI (vN V) (vP V) W.1 W.2.1) (ht : W.2.2 < 2 ^ 20) : ∃ (μ' : am_M2), am_run (d + 3) 170 [.ref 2, .int (nI k), .int (sB (false))] (am_hp n μ ν) = some (some (.int (sB true)), am_hp n μ' ν) ∧ xR μ' V W U (fup K k (some (W, S))) S Y ∧ frX μ μ' := by
  obtain ⟨μ1, h, h1, h2⟩ := s_layMark d k hk n ν hR hO hI ht
  have key : ∃ r, am_run (d + 3) 170 [.ref 2, .int (nI k), .int (sB (false))] (am_hp n μ ν) = some r ∧ ∃ (μ' : am_M2), r = (some (.int (sB true)), am_hp n μ' ν) ∧ xR μ' V W U (fup K k (some (W, S))) S Y ∧ frX μ μ' := am_run_wE (k := 170) (d := d + 2) rfl rfl (Nat.le_of_ble_eq_true rfl) [some (.ref 2), some (.int (nI k)), some (.int (sB (false)))] rfl (by
    refine am_q_iload_n rfl rfl ?_
    refine am_q_zltN rfl (by omega) (fun c_1 => absurd c_1 (by omega)) (fun c_1 => ?_)
    refine am_q_iload_n rfl rfl ?_
    refine am_q_iconst (v := nI 4) rfl rfl ?_
    refine am_q_iltN rfl (by omega) (by omega) (fun c_6 => ?_) (fun c_6 => absurd c_6 (by omega))
    refine am_q_iload_n rfl rfl ?_
    refine am_q_if_eqB rfl (fun c_12 => ?_) (fun c_12 => by simp at c_12)
    refine am_q_aload_n rfl rfl ?_
    refine am_q_gr rfl rfl rfl ?_
    refine am_q_iload_n rfl rfl ?_
    refine am_q_aload_n rfl rfl ?_
    refine am_q_gr rfl rfl rfl ?_
    refine am_q_aload_n rfl rfl ?_
    refine am_q_gr rfl rfl rfl ?_
    refine am_q_call rfl rfl (h) rfl ?_
    refine am_q_iconst (v := nI 1) rfl rfl ?_
    refine am_q_ireturn rfl rfl rfl ?_
    exact ⟨_, rfl, h1, h2⟩)
  obtain ⟨r, h1, μ', h2, h3⟩ := key
  exact ⟨μ', by rw [h1, h2], h3⟩

theorem x_mark (d : Nat) (m : Int32) (b : Bool) (n : Nat) {V : sVal} {W : sWall} {U : List sWall} {K : Nat → Option (sWall × sSeen)} {S : sSeen} {Y : sYear} {μ : am_M2} (ν : am_N2) (hR : xR μ V W U K S Y) (hO : vOk V) (hI : sI (vN V) (vP V) W.1 W.2.1) (ht : W.2.2 < 2 ^ 20) : ∃ μ', am_run (d + 3) 170 [.ref 2, .int m, .int (sB b)] (am_hp n μ ν) = some (some (.int (sB (mkOk K m b))), am_hp n μ' ν) ∧ xR μ' V (mkDo W U K S m b).1 (mkDo W U K S m b).2.1 (mkDo W U K S m b).2.2.1 (mkDo W U K S m b).2.2.2 Y ∧ frX μ μ' := by
  cases hm : am_ix m 4 with
  | none =>
    have e1 : mkOk K m b = false := by unfold mkOk; rw [hm]
    have e2 : mkDo W U K S m b = (W, U, K, S) := by unfold mkDo; rw [hm]
    rw [e1, e2]
    exact ⟨μ, x_mark_o (d + 2) m b n μ ν hm, hR, frX_rf _⟩
  | some k =>
    obtain ⟨hk, rfl⟩ := sn_ix_in hm (by decide)
    cases b with
    | false =>
      have e1 : mkOk K (nI k) false = true := by unfold mkOk; rw [hm]; rfl
      have e2 : mkDo W U K S (nI k) false = (W, U, fup K k (some (W, S)), S) := by unfold mkDo; rw [hm]
      rw [e1, e2]
      exact x_mark_l d k hk n ν hR hO hI ht
    | true =>
      have e1 : mkOk K (nI k) true = (K k).isSome := by unfold mkOk; rw [hm]; rfl
      rw [e1]
      cases hz : K k with
      | none =>
        have e2 : mkDo W U K S (nI k) true = (W, U, K, S) := by unfold mkDo; rw [hm]; simp only [hz]
        rw [e2]
        obtain ⟨-, h⟩ := x_mark_g0 d k hk n ν hR hO hI ht (by rw [hz]; rfl)
        exact ⟨μ, h, hR, frX_rf _⟩
      | some x =>
        have e2 : mkDo W U K S (nI k) true = (x.1, [], K, x.2) := by unfold mkDo; rw [hm]; simp only [hz]
        rw [e2]
        exact x_mark_g1 d k hk x.1 x.2 n ν hR hO hI ht hz