theorem sB_1 {b : Bool} (h : sB b = nI 1) : b = true := by cases b with | true => rfl | false => exact absurd h (by decide)
theorem sB_n1 {b : Bool} (h : ¬ sB b = nI 1) : b = false := by cases b with | false => rfl | true => exact absurd rfl h
theorem m_asL (d : Nat) (n : Nat) {V : sVal} {T : sWall} {S : sSeen} {μ : am_M2} (ν : am_N2) (hV : mVal μ V) (hO : vOk V) (hT : mWall μ 0 T) (hI : sI (vN V) (vP V) T.1 T.2.1) (hS : mSeen μ 0 S) (hN : nOk V S) : ∀ (m j : Nat) (o3 : Option Value), j + m = S.1 → am_w (d + 3) (Option.some FieldType.boolean) am_g262 4 [some (.ref 133), some (.int (sB (agr S (fun p => wAt V T.2.1 p (vN V)) j))), some (.int (nI j)), o3] [] (am_hp n μ ν) (fun y => y = (some (.int (sB (ftB V S T.2.1))), am_hp n μ ν)) := by
  intro m
  induction m with
  | zero =>
    intro j o3 hj
    have h6 := hO.1.1
    have hP8 := hO.1.2.1
    have hS8 := hN.1
    refine am_q_iload_n rfl rfl ?_
    refine am_q_aload_n rfl rfl ?_
    refine am_q_gr rfl rfl rfl ?_
    refine am_q_bipush (v := nI 13) rfl rfl ?_
    refine am_q_iald rfl rfl (by first | exact am_ix_nI (by omega) (by omega) | rfl) hS.1 ?_
    refine am_q_igeN rfl (by omega) (by omega) (fun c_12 => ?_) (fun c_12 => absurd c_12 (by omega))
    refine am_q_iload_n rfl rfl ?_
    refine am_q_ireturn rfl rfl (sB_ok _) ?_
    rw [show j = S.1 by omega]; rfl
  | succ m ih =>
    intro j o3 hj
    have h6 := hO.1.1
    have hP8 := hO.1.2.1
    have hS8 := hN.1
    obtain ⟨s1, s2, s3⟩ := hS.2.2 j (by omega)
    simp only [Nat.zero_add] at s1 s2 s3
    obtain ⟨n1, n2, n3⟩ := hN.2 j (by omega)
    have hwl := wAt_le hO T.2.1 (S.2.1 j) (vN V) (Nat.le_refl _)
    have hs : agr S (fun p => wAt V T.2.1 p (vN V)) (j + 1) = (agr S (fun p => wAt V T.2.1 p (vN V)) j && (decide (S.2.2.1 j ≤ wAt V T.2.1 (S.2.1 j) (vN V)) == S.2.2.2 j)) := rfl
    refine am_q_iload_n rfl rfl ?_
    refine am_q_aload_n rfl rfl ?_
    refine am_q_gr rfl rfl rfl ?_
    refine am_q_bipush (v := nI 13) rfl rfl ?_
    refine am_q_iald rfl rfl (by first | exact am_ix_nI (by omega) (by omega) | rfl) hS.1 ?_
    refine am_q_igeN rfl (by omega) (by omega) (fun c_12 => absurd c_12 (by omega)) (fun c_12 => ?_)
    refine am_q_bipush (v := nI 14) rfl rfl ?_
    refine am_q_iconst (v := nI 3) rfl rfl ?_
    refine am_q_iload_n rfl rfl ?_
    refine am_q_imul rfl (pk_mul _ _) ?_
    refine am_q_iadd rfl (nI_add _ _) ?_
    refine am_q_istore_n [some _, some _, some _, some _] rfl (Nat.le_of_ble_eq_true rfl) rfl ?_
    refine am_q_iload_n rfl rfl ?_
    refine am_q_if_eqB rfl (fun c_23 => ?_) (fun c_23 => ?_)
    · refine am_q_iconst (v := nI 0) rfl rfl ?_
      refine am_q_istore_n [some _, some _, some _, some _] rfl (Nat.le_of_ble_eq_true rfl) rfl ?_
      refine am_q_iinc [some _, some _, some _, some _] rfl (c := nI 1) rfl rfl (Nat.le_of_ble_eq_true rfl) (nI_add _ _) rfl ?_
      refine am_q_goto rfl ?_
      have hb : agr S (fun p => wAt V T.2.1 p (vN V)) (j + 1) = false := by first | (rw [hs, c_23]; rfl) | (rw [hs, c_23, decide_eq_false (by omega), sB_1 c_61]; rfl) | (rw [hs, c_23, decide_eq_false (by omega), sB_n1 c_61]; rfl) | (rw [hs, c_23, decide_eq_true c_44, sB_1 c_61]; rfl) | (rw [hs, c_23, decide_eq_true c_44, sB_n1 c_61]; rfl)
      have e := fun o => ih (j + 1) o (by omega)
      rw [hb] at e
      exact e _
    · refine am_q_aload_n rfl rfl ?_
      refine am_q_aload_n rfl rfl ?_
      refine am_q_gr rfl rfl rfl ?_
      refine am_q_iload_n rfl rfl ?_
      refine am_q_iald rfl rfl (am_ix_nI (show 14 + 3 * j < 836 by omega) (by decide)) s1 ?_
      refine am_q_call rfl rfl (m_weightAt _ n ν hV hO hT hI _ (by omega)) rfl ?_
      refine am_q_aload_n rfl rfl ?_
      refine am_q_gr rfl rfl rfl ?_
      refine am_q_iload_n rfl rfl ?_
      refine am_q_iconst (v := nI 1) rfl rfl ?_
      refine am_q_iadd rfl (nI_add _ _) ?_
      refine am_q_iald rfl rfl (am_ix_nI (show 14 + 3 * j + 1 < 836 by omega) (by decide)) s2 ?_
      refine am_q_iltN rfl (by omega) (by omega) (fun c_44 => ?_) (fun c_44 => ?_)
      · refine am_q_iconst (v := nI 0) rfl rfl ?_
        refine am_q_aload_n rfl rfl ?_
        refine am_q_gr rfl rfl rfl ?_
        refine am_q_iload_n rfl rfl ?_
        refine am_q_iconst (v := nI 2) rfl rfl ?_
        refine am_q_iadd rfl (nI_add _ _) ?_
        refine am_q_iald rfl rfl (am_ix_nI (show 14 + 3 * j + 2 < 836 by omega) (by decide)) s3 ?_
        refine am_q_iconst (v := nI 1) rfl rfl ?_
        refine am_q_icmp_ne rfl (fun c_61 => ?_) (fun c_61 => ?_)
        · refine am_q_iconst (v := nI 0) rfl rfl ?_
          refine am_q_ineN rfl (by omega) (by omega) (fun c_69 => absurd c_69 (by omega)) (fun c_69 => ?_)
          refine am_q_iconst (v := nI 1) rfl rfl ?_
          refine am_q_goto rfl ?_
          refine am_q_istore_n [some _, some _, some _, some _] rfl (Nat.le_of_ble_eq_true rfl) rfl ?_
          refine am_q_iinc [some _, some _, some _, some _] rfl (c := nI 1) rfl rfl (Nat.le_of_ble_eq_true rfl) (nI_add _ _) rfl ?_
          refine am_q_goto rfl ?_
          have hb : agr S (fun p => wAt V T.2.1 p (vN V)) (j + 1) = true := by first | (rw [hs, c_23]; rfl) | (rw [hs, c_23, decide_eq_false (by omega), sB_1 c_61]; rfl) | (rw [hs, c_23, decide_eq_false (by omega), sB_n1 c_61]; rfl) | (rw [hs, c_23, decide_eq_true c_44, sB_1 c_61]; rfl) | (rw [hs, c_23, decide_eq_true c_44, sB_n1 c_61]; rfl)
          have e := fun o => ih (j + 1) o (by omega)
          rw [hb] at e
          exact e _
        · refine am_q_iconst (v := nI 1) rfl rfl ?_
          refine am_q_goto rfl ?_
          refine am_q_ineN rfl (by omega) (by omega) (fun c_69 => ?_) (fun c_69 => absurd c_69 (by omega))
          refine am_q_iconst (v := nI 0) rfl rfl ?_
          refine am_q_istore_n [some _, some _, some _, some _] rfl (Nat.le_of_ble_eq_true rfl) rfl ?_
          refine am_q_iinc [some _, some _, some _, some _] rfl (c := nI 1) rfl rfl (Nat.le_of_ble_eq_true rfl) (nI_add _ _) rfl ?_
          refine am_q_goto rfl ?_
          have hb : agr S (fun p => wAt V T.2.1 p (vN V)) (j + 1) = false := by first | (rw [hs, c_23]; rfl) | (rw [hs, c_23, decide_eq_false (by omega), sB_1 c_61]; rfl) | (rw [hs, c_23, decide_eq_false (by omega), sB_n1 c_61]; rfl) | (rw [hs, c_23, decide_eq_true c_44, sB_1 c_61]; rfl) | (rw [hs, c_23, decide_eq_true c_44, sB_n1 c_61]; rfl)
          have e := fun o => ih (j + 1) o (by omega)
          rw [hb] at e
          exact e _
      · refine am_q_iconst (v := nI 1) rfl rfl ?_
        refine am_q_goto rfl ?_
        refine am_q_aload_n rfl rfl ?_
        refine am_q_gr rfl rfl rfl ?_
        refine am_q_iload_n rfl rfl ?_
        refine am_q_iconst (v := nI 2) rfl rfl ?_
        refine am_q_iadd rfl (nI_add _ _) ?_
        refine am_q_iald rfl rfl (am_ix_nI (show 14 + 3 * j + 2 < 836 by omega) (by decide)) s3 ?_
        refine am_q_iconst (v := nI 1) rfl rfl ?_
        refine am_q_icmp_ne rfl (fun c_61 => ?_) (fun c_61 => ?_)
        · refine am_q_iconst (v := nI 0) rfl rfl ?_
          refine am_q_ineN rfl (by omega) (by omega) (fun c_69 => ?_) (fun c_69 => absurd c_69 (by omega))
          refine am_q_iconst (v := nI 0) rfl rfl ?_
          refine am_q_istore_n [some _, some _, some _, some _] rfl (Nat.le_of_ble_eq_true rfl) rfl ?_
          refine am_q_iinc [some _, some _, some _, some _] rfl (c := nI 1) rfl rfl (Nat.le_of_ble_eq_true rfl) (nI_add _ _) rfl ?_
          refine am_q_goto rfl ?_
          have hb : agr S (fun p => wAt V T.2.1 p (vN V)) (j + 1) = false := by first | (rw [hs, c_23]; rfl) | (rw [hs, c_23, decide_eq_false (by omega), sB_1 c_61]; rfl) | (rw [hs, c_23, decide_eq_false (by omega), sB_n1 c_61]; rfl) | (rw [hs, c_23, decide_eq_true c_44, sB_1 c_61]; rfl) | (rw [hs, c_23, decide_eq_true c_44, sB_n1 c_61]; rfl)
          have e := fun o => ih (j + 1) o (by omega)
          rw [hb] at e
          exact e _
        · refine am_q_iconst (v := nI 1) rfl rfl ?_
          refine am_q_goto rfl ?_
          refine am_q_ineN rfl (by omega) (by omega) (fun c_69 => absurd c_69 (by omega)) (fun c_69 => ?_)
          refine am_q_iconst (v := nI 1) rfl rfl ?_
          refine am_q_goto rfl ?_
          refine am_q_istore_n [some _, some _, some _, some _] rfl (Nat.le_of_ble_eq_true rfl) rfl ?_
          refine am_q_iinc [some _, some _, some _, some _] rfl (c := nI 1) rfl rfl (Nat.le_of_ble_eq_true rfl) (nI_add _ _) rfl ?_
          refine am_q_goto rfl ?_
          have hb : agr S (fun p => wAt V T.2.1 p (vN V)) (j + 1) = true := by first | (rw [hs, c_23]; rfl) | (rw [hs, c_23, decide_eq_false (by omega), sB_1 c_61]; rfl) | (rw [hs, c_23, decide_eq_false (by omega), sB_n1 c_61]; rfl) | (rw [hs, c_23, decide_eq_true c_44, sB_1 c_61]; rfl) | (rw [hs, c_23, decide_eq_true c_44, sB_n1 c_61]; rfl)
          have e := fun o => ih (j + 1) o (by omega)
          rw [hb] at e
          exact e _

/-- StoneSecretsModel.isAsSeen()Z -/
theorem m_isAsSeen (d : Nat) (n : Nat) {V : sVal} {T : sWall} {S : sSeen} {μ : am_M2} (ν : am_N2) (hV : mVal μ V) (hO : vOk V) (hT : mWall μ 0 T) (hI : sI (vN V) (vP V) T.1 T.2.1) (hS : mSeen μ 0 S) (hN : nOk V S) : am_run (d + 4) 262 [.ref 133] (am_hp n μ ν) = some (some (.int (sB (ftB V S T.2.1))), am_hp n μ ν) := by
  refine am_r262 (d := d + 3) (Nat.le_of_ble_eq_true rfl) [some (.ref 133), none, none, none] rfl ?_
  refine am_q_iconst (v := nI 1) rfl rfl ?_
  refine am_q_istore_n [some _, some _, none, none] rfl (Nat.le_of_ble_eq_true rfl) rfl ?_
  refine am_q_iconst (v := nI 0) rfl rfl ?_
  refine am_q_istore_n [some _, some _, some _, none] rfl (Nat.le_of_ble_eq_true rfl) rfl ?_
  exact m_asL d n ν hV hO hT hI hS hN S.1 0 none (by omega)

theorem tmN_app (ws : List (Nat → Option Nat)) (pl : Nat → Option Nat) (s p : Nat) : tmN (ws ++ [pl]) s p = tmN ws s p + (if pl s = some p then 1 else 0) := by
  unfold tmN
  rw [List.filter_append, List.length_append]
  by_cases h : pl s = some p <;> simp [h]
theorem ftF_app (V : sVal) (S : sSeen) (ws : List (Nat → Option Nat)) (pl : Nat → Option Nat) : ftF V S (ws ++ [pl]) = ftF V S ws + (if ftB V S pl = true then 1 else 0) := by
  unfold ftF
  rw [List.filter_append, List.length_append]
  by_cases h : ftB V S pl = true <;> simp [h]
theorem tlF_app (V : sVal) (S : sSeen) (ws : List (Nat → Option Nat)) (pl : Nat → Option Nat) (p w : Nat) : tlF V S (ws ++ [pl]) p w = tlF V S ws p w + (if ftB V S pl = true ∧ wAt V pl p (vN V) = w then 1 else 0) := by
  unfold tlF
  rw [List.filter_append, List.length_append]
  by_cases h : ftB V S pl = true <;> by_cases h2 : wAt V pl p (vN V) = w <;> simp [h, h2]
theorem evF_app (V : sVal) (pl : Nat → Option Nat) : ∀ (ws : List (Nat → Option Nat)) (a : Option (Nat × Nat)) (i : Nat), evF V a i (ws ++ [pl]) = evS V (evF V a i ws) (i + ws.length) pl
  | [], a, i => rfl
  | w :: ws, a, i => by
    show evF V (evS V a i w) (i + 1) (ws ++ [pl]) = evS V (evF V (evS V a i w) (i + 1) ws) (i + (ws.length + 1)) pl
    rw [evF_app V pl ws, show i + 1 + ws.length = i + (ws.length + 1) by omega]
theorem bsF_app (V : sVal) (t w0 : Nat) (pl : Nat → Option Nat) : ∀ (ws : List (Nat → Option Nat)) (a : Option (Nat × Nat)) (i : Nat), bsF V t w0 a i (ws ++ [pl]) = bsS V t w0 (bsF V t w0 a i ws) (i + ws.length) pl
  | [], a, i => rfl
  | w :: ws, a, i => by
    show bsF V t w0 (bsS V t w0 a i w) (i + 1) (ws ++ [pl]) = bsS V t w0 (bsF V t w0 (bsS V t w0 a i w) (i + 1) ws) (i + (ws.length + 1)) pl
    rw [bsF_app V t w0 pl ws, show i + 1 + ws.length = i + (ws.length + 1) by omega]
theorem evF_le {V : sVal} (hO : vOk V) : ∀ (ws : List (Nat → Option Nat)) (a : Option (Nat × Nat)) (i : Nat), (∀ w, w ∈ ws → pOk V w) → (∀ b, a = some b → b.1 ≤ 2000) → ∀ b, evF V a i ws = some b → b.1 ≤ 2000
  | [], a, i, _, h => h
  | w :: ws, a, i, hw, h => by
    refine evF_le hO ws (evS V a i w) (i + 1) (fun x hx => hw x (List.mem_cons_of_mem _ hx)) (fun b hb => ?_)
    have hl := leanN_le hO (hw w List.mem_cons_self)
    unfold evS at hb
    split at hb
    · cases hb; exact hl
    · rename_i c
      split at hb
      · cases hb; exact hl
      · rw [← Option.some.inj hb]; exact h c rfl
theorem bsF_le {V : sVal} (h6 : vN V ≤ 6) (t w0 : Nat) : ∀ (ws : List (Nat → Option Nat)) (a : Option (Nat × Nat)) (i : Nat), (∀ b, a = some b → b.1 ≤ 6) → ∀ b, bsF V t w0 a i ws = some b → b.1 ≤ 6
  | [], a, i, h => h
  | w :: ws, a, i, h => by
    refine bsF_le h6 t w0 ws (bsS V t w0 a i w) (i + 1) (fun b hb => ?_)
    have hl := stB_6 h6 t w0 w
    unfold bsS at hb
    split at hb
    · cases hb; exact hl
    · rename_i c
      split at hb
      · cases hb; exact hl
      · rw [← Option.some.inj hb]; exact h c rfl
theorem wayV_1 {ws : List (Nat → Option Nat)} {pl : Nat → Option Nat} {k s : Nat} (h : k < ws.length) : wayV (ws ++ [pl]) k s = wayV ws k s := by unfold wayV; rw [List.getElem?_append_left h]
theorem wayV_2 (ws : List (Nat → Option Nat)) (pl : Nat → Option Nat) (s : Nat) : wayV (ws ++ [pl]) ws.length s = sn_place (pl s) := by unfold wayV; simp
def rowT (V : sVal) (μ : am_M2) (ws : List (Nat → Option Nat)) (s : Nat) : Prop := ∀ p, p < vP V → μ 147 (8 * s + p) = nI (tmN ws s p)
def rowW (μ : am_M2) (wn : Int32) (ws : List (Nat → Option Nat)) (s : Nat) : Prop := ∀ k, k < ws.length → wn = nI k → μ 148 s = wayV ws k s
def aTW (V : sVal) (wn : Int32) (μ : am_M2) (ws : List (Nat → Option Nat)) : Prop := ∀ s, s < vN V → rowT V μ ws s ∧ rowW μ wn ws s
def aTJ (V : sVal) (wn : Int32) (μ : am_M2) (ws vs : List (Nat → Option Nat)) (j : Nat) : Prop := ∀ s, s < vN V → (s < j → rowT V μ vs s ∧ rowW μ wn vs s) ∧ (j ≤ s → rowT V μ ws s ∧ rowW μ wn ws s)
theorem aTJ_s {V : sVal} {wn : Int32} {μ1 μ2 : am_M2} {ws vs : List (Nat → Option Nat)} {j : Nat} (hP : vP V ≤ 8) (h : aTJ V wn μ1 ws vs j) (h1 : ∀ k, k < 8 * j ∨ 8 * j + 8 ≤ k → μ2 147 k = μ1 147 k) (h2 : ∀ s, s ≠ j → μ2 148 s = μ1 148 s) (hT : rowT V μ2 vs j) (hW : rowW μ2 wn vs j) : aTJ V wn μ2 ws vs (j + 1) := fun s hs => by
  by_cases e : s = j
  · subst e; exact ⟨fun _ => ⟨hT, hW⟩, fun z => by omega⟩
  · have a1 : ∀ us, rowT V μ1 us s → rowT V μ2 us s := fun us q p hp => by rw [h1 _ (by omega)]; exact q p hp
    have a2 : ∀ us, rowW μ1 wn us s → rowW μ2 wn us s := fun us q k hk hn => by rw [h2 s e]; exact q k hk hn
    refine ⟨fun z => ?_, fun z => ?_⟩
    · have := (h s hs).1 (by omega); exact ⟨a1 _ this.1, a2 _ this.2⟩
    · have := (h s hs).2 (by omega); exact ⟨a1 _ this.1, a2 _ this.2⟩
theorem rowW_y {μ : am_M2} {wn : Int32} {ws : List (Nat → Option Nat)} {pl : Nat → Option Nat} {s : Nat} (hl : ws.length < 2 ^ 30) (he : nI ws.length = wn) (hv : μ 148 s = sn_place (pl s)) : rowW μ wn (ws ++ [pl]) s := fun k hk hn => by
  rw [List.length_append] at hk
  simp at hk
  have : ws.length = k := (nI_eq (by omega) (by omega)).mp (he.trans hn)
  rw [← this, wayV_2, hv]
theorem rowW_n {μ μ' : am_M2} {wn : Int32} {ws : List (Nat → Option Nat)} {pl : Nat → Option Nat} {s : Nat} (he : ¬ nI ws.length = wn) (h : rowW μ wn ws s) (hv : μ' 148 s = μ 148 s) : rowW μ' wn (ws ++ [pl]) s := fun k hk hn => by
  rw [List.length_append] at hk
  simp at hk
  have hne : k ≠ ws.length := fun z => he (by rw [hn, z])
  rw [wayV_1 (by omega), hv]
  exact h k (by omega) hn
theorem rowT_n {V : sVal} {μ μ' : am_M2} {ws : List (Nat → Option Nat)} {pl : Nat → Option Nat} {s : Nat} (hn : pl s = none) (h : rowT V μ ws s) (hv : ∀ k, μ' 147 k = μ 147 k) : rowT V μ' (ws ++ [pl]) s := fun p hp => by
  rw [tmN_app, hv, if_neg (by rw [hn]; exact fun z => by cases z)]; exact h p hp
theorem rowT_y {V : sVal} {μ μ' : am_M2} {ws : List (Nat → Option Nat)} {pl : Nat → Option Nat} {s q : Nat} (hq : pl s = some q) (h : rowT V μ ws s) (h1 : μ' 147 (8 * s + q) = nI (tmN ws s q + 1)) (hv : ∀ k, k ≠ 8 * s + q → μ' 147 k = μ 147 k) : rowT V μ' (ws ++ [pl]) s := fun p hp => by
  rw [tmN_app]
  by_cases e : p = q
  · subst e; rw [if_pos hq]; exact h1
  · rw [if_neg (by rw [hq]; exact fun z => e (Option.some.inj z).symm), hv _ (by omega)]; exact h p hp
theorem telA_n {V : sVal} {wn : Int32} {μ μ1 : am_M2} {ws : List (Nat → Option Nat)} {pl : Nat → Option Nat} {j : Nat} (hP : vP V ≤ 8) (hl : ws.length < 2 ^ 30) (h : ((∀ i, i ≠ 147 → i ≠ 148 → μ1 i = μ i) ∧ aTJ V wn μ1 ws (ws ++ [pl]) j)) (hj : j < vN V) (hn : pl j = none) {v : Int32} (hv : (nI ws.length = wn ∧ v = sn_place (pl j)) ∨ (¬ nI ws.length = wn ∧ v = μ1 148 j)) : (∀ i, i ≠ 147 → i ≠ 148 → am_up μ1 148 j v i = μ i) ∧ aTJ V wn (am_up μ1 148 j v) ws (ws ++ [pl]) (j + 1) := by
  obtain ⟨r1, r2⟩ := (h.2 j hj).2 (Nat.le_refl _)
  refine ⟨fun i a b => ?_, aTJ_s hP h.2 (fun k hk => am_up_ne (by omega)) (fun s hs => am_up_ne (by omega)) (rowT_n hn r1 (fun k => am_up_ne (by omega))) ?_⟩
  · funext k; rw [am_up_ne (by omega), h.1 i a b]
  · rcases hv with ⟨c, e⟩ | ⟨c, e⟩
    · exact rowW_y hl c (by rw [am_up_eq, e])
    · exact rowW_n c r2 (by rw [am_up_eq, e])
theorem telA_y {V : sVal} {wn : Int32} {μ μ1 : am_M2} {ws : List (Nat → Option Nat)} {pl : Nat → Option Nat} {j : Nat} (hP : vP V ≤ 8) (hl : ws.length < 2 ^ 30) (h : ((∀ i, i ≠ 147 → i ≠ 148 → μ1 i = μ i) ∧ aTJ V wn μ1 ws (ws ++ [pl]) j)) (hj : j < vN V) {q : Nat} (hq : pl j = some q) (hq8x : q < 8) {v : Int32} (hv : (nI ws.length = wn ∧ v = sn_place (pl j)) ∨ (¬ nI ws.length = wn ∧ v = μ1 148 j)) : (∀ i, i ≠ 147 → i ≠ 148 → am_up (am_up μ1 148 j v) 147 (8 * j + q) (nI (tmN ws j q + 1)) i = μ i) ∧ aTJ V wn (am_up (am_up μ1 148 j v) 147 (8 * j + q) (nI (tmN ws j q + 1))) ws (ws ++ [pl]) (j + 1) := by
  obtain ⟨r1, r2⟩ := (h.2 j hj).2 (Nat.le_refl _)
  refine ⟨fun i a b => ?_, ?_⟩
  · funext k; rw [am_up_ne (by omega), am_up_ne (by omega), h.1 i a b]
  · by_cases hq8 : q < 8
    · refine aTJ_s hP h.2 (fun k hk => ?_) (fun s hs => ?_) (rowT_y hq r1 am_up_eq (fun k hk => ?_)) ?_
      · rw [am_up_ne (by omega), am_up_ne (by omega)]
      · rw [am_up_ne (by omega), am_up_ne (by omega)]
      · rw [am_up_ne (by omega), am_up_ne (by omega)]
      · rcases hv with ⟨c, e⟩ | ⟨c, e⟩
        · exact rowW_y hl c (by rw [am_up_ne (by omega), am_up_eq, e])
        · exact rowW_n c r2 (by rw [am_up_ne (by omega), am_up_eq, e])
    · exact absurd hq8x hq8
theorem m_telA (d : Nat) (n : Nat) {V : sVal} {T : sWall} {μ : am_M2} (ν : am_N2) (hV : mVal μ V) (hO : vOk V) (hT : mWall μ 0 T) (hI : sI (vN V) (vP V) T.1 T.2.1) (ws : List (Nat → Option Nat)) (hl : ws.length < 2 ^ 30) (wn : Int32) (h20 : μ 133 20 = nI ws.length) (h21 : μ 133 21 = wn) (Q : am_R → Prop) (K : ∀ μ1 o1, (∀ i, i ≠ 147 → i ≠ 148 → μ1 i = μ i) → aTW V wn μ1 (ws ++ [T.2.1]) → am_w (d + 6) (Option.none : Option FieldType) am_g260 84 [some (.ref 133), o1] [] (am_hp n μ1 ν) Q) : ∀ (m j : Nat) (μ1 : am_M2), j + m = vN V → (∀ i, i ≠ 147 → i ≠ 148 → μ1 i = μ i) ∧ aTJ V wn μ1 ws (ws ++ [T.2.1]) j → am_w (d + 6) (Option.none : Option FieldType) am_g260 2 [some (.ref 133), some (.int (nI j))] [] (am_hp n μ1 ν) (Q) := by
  intro m
  induction m with
  | zero =>
    intro j μ1 hj hinv
    have h6 := hO.1.1
    have hP8 := hO.1.2.1
    have hV1 := mVal_c (fun i hi => hinv.1 i (by omega) (by omega)) hV
    refine am_q_iload_n rfl rfl ?_
    refine am_q_aload_n rfl rfl ?_
    refine am_q_call rfl rfl (m_souls _ _ _ hV1) rfl ?_
    refine am_q_igeN rfl (by omega) (by omega) (fun c_7 => ?_) (fun c_7 => absurd c_7 (by omega))
    refine K μ1 _ hinv.1 (fun s hs => ?_)
    exact (hinv.2 s hs).1 (by omega)
  | succ m ih =>
    intro j μ1 hj hinv
    have h6 := hO.1.1
    have hP8 := hO.1.2.1
    have hV1 := mVal_c (fun i hi => hinv.1 i (by omega) (by omega)) hV
    have hT1 := mWall_c (μ' := μ1) (fun k a b => by rw [hinv.1 145 (by decide) (by decide)]) hT
    have h20a : μ1 133 20 = nI ws.length := by rw [hinv.1 133 (by decide) (by decide)]; exact h20
    have h21a : μ1 133 21 = wn := by rw [hinv.1 133 (by decide) (by decide)]; exact h21
    have k1 := hI j (by omega)
    have k4 := k1.1
    have h8 := sI_8 hO hI
    have hpj : μ1 145 (7 + j) = sn_place (T.2.1 j) := by rw [show 7 + j = 0 + 7 + j by omega]; exact (hT1.2 j (by omega)).2
    obtain ⟨r1, r2⟩ := (hinv.2 j (by omega)).2 (Nat.le_refl _)
    refine am_q_iload_n rfl rfl ?_
    refine am_q_aload_n rfl rfl ?_
    refine am_q_call rfl rfl (m_souls _ _ _ hV1) rfl ?_
    refine am_q_igeN rfl (by omega) (by omega) (fun c_7 => absurd c_7 (by omega)) (fun c_7 => ?_)
    refine am_q_aload_n rfl rfl ?_
    refine am_q_gr rfl rfl rfl ?_
    refine am_q_iload_n rfl rfl ?_
    refine am_q_aload_n rfl rfl ?_
    refine am_q_gi rfl rfl rfl h20a ?_
    refine am_q_aload_n rfl rfl ?_
    refine am_q_gi rfl rfl rfl h21a ?_
    refine am_q_icmp_ne rfl (fun c_23 => ?_) (fun c_23 => ?_)
    · refine am_q_aload_n rfl rfl ?_
      refine am_q_gr rfl rfl rfl ?_
      refine am_q_iload_n rfl rfl ?_
      refine am_q_iald rfl rfl (by first | exact am_ix_nI (by omega) (by omega) | rfl) rfl ?_
      refine am_q_iast rfl rfl (by first | exact am_ix_nI (by omega) (by omega) | rfl) rfl ?_
      have hT2 : ∀ v, mWall (am_up μ1 148 j v) 0 T := fun v => mWall_c (fun k a b => am_up_ne (Or.inl (by decide))) hT1
      refine am_q_aload_n rfl rfl ?_
      refine am_q_iconst (v := nI 0) rfl rfl ?_
      refine am_q_iload_n rfl rfl ?_
      refine am_q_call rfl rfl (m_isNowW _ n ν 0 (by decide) (hT2 _) j (by omega)) rfl ?_
      refine am_q_iconst (v := nI 2) rfl rfl ?_
      refine am_q_ineN rfl (by omega) (by omega) (fun c_52 => ?_) (fun c_52 => ?_)
      · have hpn : T.2.1 j = none := by cases hq : T.2.1 j with | none => rfl | some p => exact absurd (k1.2.1.mp (by rw [hq]; rfl)) c_52
        refine am_q_iinc [some _, some _] rfl (c := nI 1) rfl rfl (Nat.le_of_ble_eq_true rfl) (nI_add _ _) rfl ?_
        refine am_q_goto rfl ?_
        first | exact ih (j + 1) _ (by omega) (telA_y hP8 hl hinv c_7 hql hq8 (Or.inl ⟨c_23, rfl⟩)) | exact ih (j + 1) _ (by omega) (telA_y hP8 hl hinv c_7 hql hq8 (Or.inr ⟨c_23, rfl⟩)) | exact ih (j + 1) _ (by omega) (telA_n hP8 hl hinv c_7 hpn (Or.inl ⟨c_23, rfl⟩)) | exact ih (j + 1) _ (by omega) (telA_n hP8 hl hinv c_7 hpn (Or.inr ⟨c_23, rfl⟩))
      · obtain ⟨q, hql⟩ := Option.isSome_iff_exists.mp (k1.2.1.mpr c_52)
        have hq8 := h8 j (by omega) q hql
        have hqP := k1.2.2.1 q hql
        refine am_q_aload_n rfl rfl ?_
        refine am_q_gr rfl rfl rfl ?_
        refine am_q_bipush (v := nI 8) rfl rfl ?_
        refine am_q_iload_n rfl rfl ?_
        refine am_q_imul rfl (pk_mul _ _) ?_
        refine am_q_aload_n rfl rfl ?_
        refine am_q_gr rfl rfl rfl ?_
        refine am_q_bipush (v := nI 7) rfl rfl ?_
        refine am_q_iload_n rfl rfl ?_
        refine am_q_iadd rfl (nI_add _ _) ?_
        refine am_q_iald rfl rfl (am_ix_nI (show 7 + j < 836 by omega) (by decide)) (show _ = nI q from by rw [am_up_ne (Or.inl (by decide)), hpj, hql]; rfl) ?_
        refine am_q_iadd rfl (nI_add _ _) ?_
        refine am_q_dup2ir rfl ?_
        refine am_q_iald rfl rfl (am_ix_nI (show 8 * j + q < 48 by omega) (by decide)) (show _ = nI (tmN ws j q) from by rw [am_up_ne (Or.inl (by decide))]; exact r1 q hqP) ?_
        refine am_q_iconst (v := nI 1) rfl rfl ?_
        refine am_q_iadd rfl (nI_add _ _) ?_
        refine am_q_iast rfl rfl (am_ix_nI (show 8 * j + q < 48 by omega) (by decide)) rfl ?_
        refine am_q_iinc [some _, some _] rfl (c := nI 1) rfl rfl (Nat.le_of_ble_eq_true rfl) (nI_add _ _) rfl ?_
        refine am_q_goto rfl ?_
        first | exact ih (j + 1) _ (by omega) (telA_y hP8 hl hinv c_7 hql hq8 (Or.inl ⟨c_23, rfl⟩)) | exact ih (j + 1) _ (by omega) (telA_y hP8 hl hinv c_7 hql hq8 (Or.inr ⟨c_23, rfl⟩)) | exact ih (j + 1) _ (by omega) (telA_n hP8 hl hinv c_7 hpn (Or.inl ⟨c_23, rfl⟩)) | exact ih (j + 1) _ (by omega) (telA_n hP8 hl hinv c_7 hpn (Or.inr ⟨c_23, rfl⟩))
    · refine am_q_aload_n rfl rfl ?_
      refine am_q_gr rfl rfl rfl ?_
      refine am_q_bipush (v := nI 7) rfl rfl ?_
      refine am_q_iload_n rfl rfl ?_
      refine am_q_iadd rfl (nI_add _ _) ?_
      refine am_q_iald rfl rfl (am_ix_nI (show 7 + j < 836 by omega) (by decide)) hpj ?_
      refine am_q_goto rfl ?_
      refine am_q_iast rfl rfl (by first | exact am_ix_nI (by omega) (by omega) | rfl) rfl ?_
      have hT2 : ∀ v, mWall (am_up μ1 148 j v) 0 T := fun v => mWall_c (fun k a b => am_up_ne (Or.inl (by decide))) hT1
      refine am_q_aload_n rfl rfl ?_
      refine am_q_iconst (v := nI 0) rfl rfl ?_
      refine am_q_iload_n rfl rfl ?_
      refine am_q_call rfl rfl (m_isNowW _ n ν 0 (by decide) (hT2 _) j (by omega)) rfl ?_
      refine am_q_iconst (v := nI 2) rfl rfl ?_
      refine am_q_ineN rfl (by omega) (by omega) (fun c_52 => ?_) (fun c_52 => ?_)
      · have hpn : T.2.1 j = none := by cases hq : T.2.1 j with | none => rfl | some p => exact absurd (k1.2.1.mp (by rw [hq]; rfl)) c_52
        refine am_q_iinc [some _, some _] rfl (c := nI 1) rfl rfl (Nat.le_of_ble_eq_true rfl) (nI_add _ _) rfl ?_
        refine am_q_goto rfl ?_
        first | exact ih (j + 1) _ (by omega) (telA_y hP8 hl hinv c_7 hql hq8 (Or.inl ⟨c_23, rfl⟩)) | exact ih (j + 1) _ (by omega) (telA_y hP8 hl hinv c_7 hql hq8 (Or.inr ⟨c_23, rfl⟩)) | exact ih (j + 1) _ (by omega) (telA_n hP8 hl hinv c_7 hpn (Or.inl ⟨c_23, rfl⟩)) | exact ih (j + 1) _ (by omega) (telA_n hP8 hl hinv c_7 hpn (Or.inr ⟨c_23, rfl⟩))
      · obtain ⟨q, hql⟩ := Option.isSome_iff_exists.mp (k1.2.1.mpr c_52)
        have hq8 := h8 j (by omega) q hql
        have hqP := k1.2.2.1 q hql
        refine am_q_aload_n rfl rfl ?_
        refine am_q_gr rfl rfl rfl ?_
        refine am_q_bipush (v := nI 8) rfl rfl ?_
        refine am_q_iload_n rfl rfl ?_
        refine am_q_imul rfl (pk_mul _ _) ?_
        refine am_q_aload_n rfl rfl ?_
        refine am_q_gr rfl rfl rfl ?_
        refine am_q_bipush (v := nI 7) rfl rfl ?_
        refine am_q_iload_n rfl rfl ?_
        refine am_q_iadd rfl (nI_add _ _) ?_
        refine am_q_iald rfl rfl (am_ix_nI (show 7 + j < 836 by omega) (by decide)) (show _ = nI q from by rw [am_up_ne (Or.inl (by decide)), hpj, hql]; rfl) ?_
        refine am_q_iadd rfl (nI_add _ _) ?_
        refine am_q_dup2ir rfl ?_
        refine am_q_iald rfl rfl (am_ix_nI (show 8 * j + q < 48 by omega) (by decide)) (show _ = nI (tmN ws j q) from by rw [am_up_ne (Or.inl (by decide))]; exact r1 q hqP) ?_
        refine am_q_iconst (v := nI 1) rfl rfl ?_
        refine am_q_iadd rfl (nI_add _ _) ?_
        refine am_q_iast rfl rfl (am_ix_nI (show 8 * j + q < 48 by omega) (by decide)) rfl ?_
        refine am_q_iinc [some _, some _] rfl (c := nI 1) rfl rfl (Nat.le_of_ble_eq_true rfl) (nI_add _ _) rfl ?_
        refine am_q_goto rfl ?_
        first | exact ih (j + 1) _ (by omega) (telA_y hP8 hl hinv c_7 hql hq8 (Or.inl ⟨c_23, rfl⟩)) | exact ih (j + 1) _ (by omega) (telA_y hP8 hl hinv c_7 hql hq8 (Or.inr ⟨c_23, rfl⟩)) | exact ih (j + 1) _ (by omega) (telA_n hP8 hl hinv c_7 hpn (Or.inl ⟨c_23, rfl⟩)) | exact ih (j + 1) _ (by omega) (telA_n hP8 hl hinv c_7 hpn (Or.inr ⟨c_23, rfl⟩))
