def wayV (ws : List (Nat → Option Nat)) (i k : Nat) : Int32 := match ws[i]? with
  | some pl => sn_place (pl k)
  | none => -1
def isSto (V : sVal) (W : sWall) (s : Int32) : Bool := sIs (vN V) W.1 s 1 || sIs (vN V) W.1 s 3 || sIs (vN V) W.1 s 2
theorem isStoK {V : sVal} {W : sWall} {s : Int32} (h : isSto V W s = true) (h6 : vN V ≤ 6) : ∃ k, k < vN V ∧ s = nI k ∧ am_ix s (vN V) = some k := by
  unfold isSto at h
  simp only [Bool.or_eq_true] at h
  rcases h with (h | h) | h <;> (obtain ⟨k, h1, h2, -, h3⟩ := isK h h6; exact ⟨k, h1, h2, h3⟩)
def qWay (V : sVal) (W : sWall) (nu s : Int32) : Int32 := if ¬ nu < 0 ∧ isSto V W s = true then wayV (waysOf V W) (ik nu) (ik s) else -1
theorem x_wayL (d nu s : Nat) (hnu : nu < 2 ^ 31) (hs : s < 6) (n : Nat) {V : sVal} {ms : List Nat} {μ : am_M2} (ν : am_N2) (hV : xVal μ V) (hO : vOk V) (hm : msOk V ms) : ∀ (ws : List (Nat → Option Nat)) (j : Nat) (μ1 : am_M2) , j + ws.length ≤ 262144 → (∀ w, w ∈ ws → pOk V w) → fr μ μ1 ∧ xIt V ms μ1 ws → j ≤ nu → am_w (d + 5) (Option.some FieldType.int) am_g121 23 [some (.ref 2), some (.int (nI nu)), some (.int (nI s)), some (.int (nI j))] [] (am_hp n μ1 ν) (fun y => ∃ (μ' : am_M2), y = (some (.int (wayV ws (nu - j) s)), am_hp n μ' ν) ∧ fr μ μ') := by
  intro ws
  induction ws with
  | nil =>
    intro j μ1  hj hall hit hinv
    have hV1 := xVal_fr hit.1 hV
    obtain ⟨μ2, hc, hf2⟩ := s_nextN d n ν hV1 hO hm hit.2
    have hf := fr_tr hit.1 hf2
    have hV2 := xVal_fr hf2 hV1
    have hjl : j ≤ 262144 := by simpa using hj
    refine am_q_iload_n rfl rfl ?_
    refine am_q_ldc (v := nI 1000000) rfl rfl ?_
    refine am_q_igeN rfl (by omega) (by omega) (fun c_26 => absurd c_26 (by omega)) (fun c_26 => ?_)
    refine am_q_aload_n rfl rfl ?_
    refine am_q_gr rfl rfl rfl ?_
    refine am_q_call rfl rfl (hc) rfl ?_
    refine am_q_if_eqB rfl (fun c_36 => ?_) (fun c_36 => by simp at c_36)
    refine am_q_iconst (v := -1) rfl rfl ?_
    refine am_q_ireturn rfl rfl rfl ?_
    exact ⟨_, rfl, hf⟩
  | cons pl vs ih =>
    intro j μ1  hj hall hit hinv
    have hV1 := xVal_fr hit.1 hV
    obtain ⟨μ2, hc, hf2, hi2, hs2⟩ := s_nextC d n ν hV1 hO hm hit.2
    have hf := fr_tr hit.1 hf2
    have hV2 := xVal_fr hf2 hV1
    have hpk := hall pl List.mem_cons_self
    have h8w := pOk_8 hO hpk
    rw [List.length_cons] at hj
    have hall2 : ∀ w, w ∈ vs → pOk V w := fun w hw => hall w (List.mem_cons_of_mem _ hw)
    refine am_q_iload_n rfl rfl ?_
    refine am_q_ldc (v := nI 1000000) rfl rfl ?_
    refine am_q_igeN rfl (by omega) (by omega) (fun c_26 => absurd c_26 (by omega)) (fun c_26 => ?_)
    refine am_q_aload_n rfl rfl ?_
    refine am_q_gr rfl rfl rfl ?_
    refine am_q_call rfl rfl (hc) rfl ?_
    refine am_q_if_eqB rfl (fun c_36 => by simp at c_36) (fun c_36 => ?_)
    refine am_q_iload_n rfl rfl ?_
    refine am_q_iload_n rfl rfl ?_
    refine am_q_ineN rfl (by omega) (by omega) (fun c_41 => ?_) (fun c_41 => ?_)
    · refine am_q_iinc [some _, some _, some _, some _] rfl (c := nI 1) rfl rfl (Nat.le_of_ble_eq_true rfl) (nI_add _ _) rfl ?_
      refine am_q_goto rfl ?_
      have e := ih (j + 1) μ2 (by omega) hall2 ⟨hf, hi2⟩ (by omega)
      rw [show wayV (pl :: vs) (nu - j) s = wayV vs (nu - (j + 1)) s by rw [show nu - j = (nu - (j + 1)) + 1 by omega]; rfl]
      exact e
    · refine am_q_aload_n rfl rfl ?_
      refine am_q_gr rfl rfl rfl ?_
      refine am_q_gr rfl rfl rfl ?_
      refine am_q_iload_n rfl rfl ?_
      refine am_q_iald rfl rfl (by first | exact am_ix_nI (by omega) (by omega) | rfl) (hs2 _ (by omega)) ?_
      refine am_q_call rfl rfl (s_placeOf _ _ (fun p hp => by have := h8w _ (by omega) p hp; omega) _) rfl ?_
      refine am_q_ireturn rfl rfl rfl ?_
      exact ⟨_, by rw [c_41, Nat.sub_self]; rfl, hf⟩

/-- StoneSecrets.way(II)I -/
theorem x_way (d : Nat) (nu s : Int32) (n : Nat) {V : sVal} {W : sWall} {μ : am_M2} (ν : am_N2) (hV : xVal μ V) (hO : vOk V) (hW : xWall μ 35 W) (hI : sI (vN V) (vP V) W.1 W.2.1) (ht : W.2.2 < 2 ^ 20) : ∃ (μ' : am_M2), am_run (d + 6) 121 [.ref 2, .int nu, .int s] (am_hp n μ ν) = some (some (.int (qWay V W nu s)), am_hp n μ' ν) ∧ fr μ μ' := by
  have h6 := hO.1.1
  have hP8 := hO.1.2.1
  have h8 := sI_8 hO hI
  obtain ⟨μ1, hb, hf1, hm, hi⟩ := s_beginWays (d + 2) n ν hV hO hW hI ht
  have hall := waysL_all (st := sSt V W) (sI_p hI) (sLo_N (V := V) (W := W))
  have hlen := waysL_262 hO (sLo V W) (sSt V W) W.2.1
  have key : ∃ r, am_run (d + 6) 121 [.ref 2, .int nu, .int s] (am_hp n μ ν) = some r ∧ ∃ (μ' : am_M2), r = (some (.int (qWay V W nu s)), am_hp n μ' ν) ∧ fr μ μ' := am_run_wE (k := 121) (d := d + 5) rfl rfl (Nat.le_of_ble_eq_true rfl) [some (.ref 2), some (.int nu), some (.int s), none] rfl (by
    refine am_q_iload_n rfl rfl ?_
    refine am_q_if_lt rfl (fun c_1 => ?_) (fun c_1 => ?_)
    · have hno : ¬ (¬ nu < 0 ∧ isSto V W s = true) := fun z => z.1 c_1
      refine am_q_iconst (v := -1) rfl rfl ?_
      refine am_q_ireturn rfl rfl rfl ?_
      exact ⟨_, by rw [qWay, if_neg hno], fr_rf _⟩
    · obtain ⟨ku, hku, rfl⟩ := nI_of c_1
      refine am_q_aload_n rfl rfl ?_
      refine am_q_gr rfl rfl rfl ?_
      refine am_q_iload_n rfl rfl ?_
      refine am_q_call rfl rfl (s_isStone35 _ _ _ _ hV.1 hW hI) rfl ?_
      refine am_q_if_neB rfl (fun c_12 => ?_) (fun c_12 => ?_)
      · obtain ⟨k, hk, rfl, -⟩ := isStoK (W := W) c_12 h6
        refine am_q_aload_n rfl rfl ?_
        refine am_q_call rfl rfl (hb) rfl ?_
        refine am_q_iconst (v := nI 0) rfl rfl ?_
        refine am_q_istore_n [some _, some _, some _, some _] rfl (Nat.le_of_ble_eq_true rfl) rfl ?_
        have e := x_wayL d ku k hku (by omega) n ν hV hO hm (waysOf V W) 0 μ1 (by rw [Nat.zero_add]; exact hlen) hall ⟨hf1, hi⟩ (Nat.zero_le _)
        rw [qWay, if_pos ⟨c_1, c_12⟩, ik_nI hku, ik_nI (by omega)]
        exact e
      · have hno : ¬ (¬ nI ku < 0 ∧ isSto V W s = true) := fun z => by have z2 := z.2; unfold isSto at z2; rw [z2] at c_12; cases c_12
        refine am_q_iconst (v := -1) rfl rfl ?_
        refine am_q_ireturn rfl rfl rfl ?_
        exact ⟨_, by rw [qWay, if_neg hno], fr_rf _⟩)
  obtain ⟨r, h1, μ', h2, h3⟩ := key
  exact ⟨μ', by rw [h1, h2], h3⟩

def tmN (ws : List (Nat → Option Nat)) (k p : Nat) : Nat := (ws.filter (fun pl => decide (pl k = some p))).length
theorem tmN_c (w : Nat → Option Nat) (ws : List (Nat → Option Nat)) (k p : Nat) : tmN (w :: ws) k p = (if w k = some p then 1 else 0) + tmN ws k p := by
  unfold tmN
  rw [List.filter_cons]
  by_cases h : w k = some p
  · simp [h]; omega
  · simp [h]
def qTimes (V : sVal) (W : sWall) (s p : Int32) : Int32 := if (am_ix s (vN V)).isSome = true ∧ (am_ix p (vP V)).isSome = true then nI (tmN (waysOf V W) (ik s) (ik p)) else -1
theorem sn_spot_2 {q : Option Nat} {p : Nat} : q = some p → sn_spot q = nI (2 ^ p) := fun h => by rw [h]; rfl
theorem x_timesL (d s p : Nat) (hs : s < 6) (hp : p < 8) (n : Nat) {V : sVal} {ms : List Nat} {μ : am_M2} (ν : am_N2) (hV : xVal μ V) (hO : vOk V) (hm : msOk V ms) : ∀ (ws : List (Nat → Option Nat)) (j : Nat) (μ1 : am_M2) (x : Nat), j + ws.length ≤ 262144 → (∀ w, w ∈ ws → pOk V w) → fr μ μ1 ∧ xIt V ms μ1 ws → am_w (d + 5) (Option.some FieldType.int) am_g123 33 [some (.ref 2), some (.int (nI s)), some (.int (nI p)), some (.int (nI x)), some (.int (nI j))] [] (am_hp n μ1 ν) (fun y => ∃ (μ' : am_M2), y = (some (.int (nI (x + tmN ws s p))), am_hp n μ' ν) ∧ fr μ μ') := by
  intro ws
  induction ws with
  | nil =>
    intro j μ1 x hj hall hit
    have hV1 := xVal_fr hit.1 hV
    obtain ⟨μ2, hc, hf2⟩ := s_nextN d n ν hV1 hO hm hit.2
    have hf := fr_tr hit.1 hf2
    have hV2 := xVal_fr hf2 hV1
    have hjl : j ≤ 262144 := by simpa using hj
    refine am_q_iload rfl rfl ?_
    refine am_q_ldc (v := nI 1000000) rfl rfl ?_
    refine am_q_igeN rfl (by omega) (by omega) (fun c_37 => absurd c_37 (by omega)) (fun c_37 => ?_)
    refine am_q_aload_n rfl rfl ?_
    refine am_q_gr rfl rfl rfl ?_
    refine am_q_call rfl rfl (hc) rfl ?_
    refine am_q_if_eqB rfl (fun c_47 => ?_) (fun c_47 => by simp at c_47)
    refine am_q_iload_n rfl rfl ?_
    refine am_q_ireturn rfl rfl rfl ?_
    exact ⟨_, rfl, hf⟩
  | cons pl vs ih =>
    intro j μ1 x hj hall hit
    have hV1 := xVal_fr hit.1 hV
    obtain ⟨μ2, hc, hf2, hi2, hs2⟩ := s_nextC d n ν hV1 hO hm hit.2
    have hf := fr_tr hit.1 hf2
    have hV2 := xVal_fr hf2 hV1
    have hpk := hall pl List.mem_cons_self
    have h8w := pOk_8 hO hpk
    rw [List.length_cons] at hj
    have hall2 : ∀ w, w ∈ vs → pOk V w := fun w hw => hall w (List.mem_cons_of_mem _ hw)
    refine am_q_iload rfl rfl ?_
    refine am_q_ldc (v := nI 1000000) rfl rfl ?_
    refine am_q_igeN rfl (by omega) (by omega) (fun c_37 => absurd c_37 (by omega)) (fun c_37 => ?_)
    refine am_q_aload_n rfl rfl ?_
    refine am_q_gr rfl rfl rfl ?_
    refine am_q_call rfl rfl (hc) rfl ?_
    refine am_q_if_eqB rfl (fun c_47 => by simp at c_47) (fun c_47 => ?_)
    refine am_q_aload_n rfl rfl ?_
    refine am_q_gr rfl rfl rfl ?_
    refine am_q_gr rfl rfl rfl ?_
    refine am_q_iload_n rfl rfl ?_
    refine am_q_iald rfl rfl (by first | exact am_ix_nI (by omega) (by omega) | rfl) (hs2 _ (by omega)) ?_
    refine am_q_iconst (v := nI 1) rfl rfl ?_
    refine am_q_iload_n rfl rfl ?_
    refine am_q_ishl rfl (sn_shl1 (by omega)) ?_
    refine am_q_icmp_ne rfl (fun c_62 => ?_) (fun c_62 => ?_)
    · rw [tmN_c, if_neg (fun q => c_62 (sn_spot_2 q)), Nat.zero_add]
      refine am_q_iinc [some _, some _, some _, some _, some _] rfl (c := nI 1) rfl rfl (Nat.le_of_ble_eq_true rfl) (nI_add _ _) rfl ?_
      refine am_q_goto rfl ?_
      exact ih (j + 1) μ2 _ (by omega) hall2 ⟨hf, hi2⟩
    · rw [tmN_c, if_pos (sn_spot_inj (fun y hy => h8w s hs y hy) hp c_62), ← Nat.add_assoc]
      refine am_q_iinc [some _, some _, some _, some _, some _] rfl (c := nI 1) rfl rfl (Nat.le_of_ble_eq_true rfl) (nI_add _ _) rfl ?_
      refine am_q_iinc [some _, some _, some _, some _, some _] rfl (c := nI 1) rfl rfl (Nat.le_of_ble_eq_true rfl) (nI_add _ _) rfl ?_
      refine am_q_goto rfl ?_
      exact ih (j + 1) μ2 _ (by omega) hall2 ⟨hf, hi2⟩

/-- StoneSecrets.times(II)I -/
theorem x_times (d : Nat) (s p : Int32) (n : Nat) {V : sVal} {W : sWall} {μ : am_M2} (ν : am_N2) (hV : xVal μ V) (hO : vOk V) (hW : xWall μ 35 W) (hI : sI (vN V) (vP V) W.1 W.2.1) (ht : W.2.2 < 2 ^ 20) : ∃ (μ' : am_M2), am_run (d + 6) 123 [.ref 2, .int s, .int p] (am_hp n μ ν) = some (some (.int (qTimes V W s p)), am_hp n μ' ν) ∧ fr μ μ' := by
  have h6 := hO.1.1
  have hP8 := hO.1.2.1
  have h8 := sI_8 hO hI
  obtain ⟨μ1, hb, hf1, hm, hi⟩ := s_beginWays (d + 2) n ν hV hO hW hI ht
  have hall := waysL_all (st := sSt V W) (sI_p hI) (sLo_N (V := V) (W := W))
  have hlen := waysL_262 hO (sLo V W) (sSt V W) W.2.1
  have key : ∃ r, am_run (d + 6) 123 [.ref 2, .int s, .int p] (am_hp n μ ν) = some r ∧ ∃ (μ' : am_M2), r = (some (.int (qTimes V W s p)), am_hp n μ' ν) ∧ fr μ μ' := am_run_wE (k := 123) (d := d + 5) rfl rfl (Nat.le_of_ble_eq_true rfl) [some (.ref 2), some (.int s), some (.int p), none, none] rfl (by
    refine am_q_aload_n rfl rfl ?_
    refine am_q_gr rfl rfl rfl ?_
    refine am_q_iload_n rfl rfl ?_
    refine am_q_call rfl rfl (s_hasSoul _ _ _ _ hV.1) rfl ?_
    refine am_q_if_eqB rfl (fun c_8 => ?_) (fun c_8 => ?_)
    · have hno : ¬ ((am_ix s (vN V)).isSome = true ∧ (am_ix p (vP V)).isSome = true) := fun z => by rw [z.1] at c_8; cases c_8
      refine am_q_iconst (v := -1) rfl rfl ?_
      refine am_q_ireturn rfl rfl rfl ?_
      exact ⟨_, by rw [qTimes, if_neg hno], fr_rf _⟩
    · refine am_q_aload_n rfl rfl ?_
      refine am_q_gr rfl rfl rfl ?_
      refine am_q_iload_n rfl rfl ?_
      refine am_q_call rfl rfl (s_hasPlace _ _ _ _ hV.1) rfl ?_
      refine am_q_if_neB rfl (fun c_19 => ?_) (fun c_19 => ?_)
      · obtain ⟨k, hk, rfl, -⟩ := isI c_8 (by omega)
        obtain ⟨kp, hkp, rfl, -⟩ := isI c_19 (by omega)
        refine am_q_iconst (v := nI 0) rfl rfl ?_
        refine am_q_istore_n [some _, some _, some _, some _, none] rfl (Nat.le_of_ble_eq_true rfl) rfl ?_
        refine am_q_aload_n rfl rfl ?_
        refine am_q_call rfl rfl (hb) rfl ?_
        refine am_q_iconst (v := nI 0) rfl rfl ?_
        refine am_q_istore [some _, some _, some _, some _, some _] rfl (Nat.le_of_ble_eq_true rfl) rfl ?_
        have e := x_timesL d k kp (by omega) (by omega) n ν hV hO hm (waysOf V W) 0 μ1 0 (by rw [Nat.zero_add]; exact hlen) hall ⟨hf1, hi⟩
        rw [Nat.zero_add] at e
        rw [qTimes, if_pos ⟨c_8, c_19⟩, ik_nI (by omega), ik_nI (by omega)]
        exact e
      · have hno : ¬ ((am_ix s (vN V)).isSome = true ∧ (am_ix p (vP V)).isSome = true) := fun z => by rw [z.2] at c_19; cases c_19
        refine am_q_iconst (v := -1) rfl rfl ?_
        refine am_q_ireturn rfl rfl rfl ?_
        exact ⟨_, by rw [qTimes, if_neg hno], fr_rf _⟩)
  obtain ⟨r, h1, μ', h2, h3⟩ := key
  exact ⟨μ', by rw [h1, h2], h3⟩

def sureF (k : Nat) : Bool → Option Nat → List (Nat → Option Nat) → Option Nat
  | _, q, [] => q
  | b, q, w :: vs => if b = false ∨ w k = q then sureF k true (w k) vs else none
def qSure (V : sVal) (W : sWall) (s : Int32) : Int32 := if isSto V W s = true then sn_place (sureF (ik s) false none (waysOf V W)) else -1
theorem sn_spot_inj2 {q r : Option Nat} (hq : ∀ x, q = some x → x < 8) (hr : ∀ x, r = some x → x < 8) (h : sn_spot q = sn_spot r) : q = r := by
  cases r with
  | some p => exact sn_spot_inj hq (hr p rfl) h
  | none =>
    cases q with
    | none => rfl
    | some p => exact (sn_spot_inj hr (hq p rfl) h.symm).symm ▸ rfl
theorem x_sureL (d s : Nat) (hs : s < 6) (n : Nat) {V : sVal} {ms : List Nat} {μ : am_M2} (ν : am_N2) (hV : xVal μ V) (hO : vOk V) (hm : msOk V ms) : ∀ (ws : List (Nat → Option Nat)) (j : Nat) (μ1 : am_M2) (q : Option Nat), j + ws.length ≤ 262144 → (∀ w, w ∈ ws → pOk V w) → fr μ μ1 ∧ xIt V ms μ1 ws → (∀ x, q = some x → x < 8) → am_w (d + 5) (Option.some FieldType.int) am_g124 21 [some (.ref 2), some (.int (nI s)), some (.int (sn_spot q)), some (.int (nI j))] [] (am_hp n μ1 ν) (fun y => ∃ (μ' : am_M2), y = (some (.int (sn_place (sureF s (decide (0 < j)) q ws))), am_hp n μ' ν) ∧ fr μ μ') := by
  intro ws
  induction ws with
  | nil =>
    intro j μ1 q hj hall hit hinv
    have hV1 := xVal_fr hit.1 hV
    obtain ⟨μ2, hc, hf2⟩ := s_nextN d n ν hV1 hO hm hit.2
    have hf := fr_tr hit.1 hf2
    have hV2 := xVal_fr hf2 hV1
    have hjl : j ≤ 262144 := by simpa using hj
    refine am_q_iload_n rfl rfl ?_
    refine am_q_ldc (v := nI 1000000) rfl rfl ?_
    refine am_q_igeN rfl (by omega) (by omega) (fun c_24 => absurd c_24 (by omega)) (fun c_24 => ?_)
    refine am_q_aload_n rfl rfl ?_
    refine am_q_gr rfl rfl rfl ?_
    refine am_q_call rfl rfl (hc) rfl ?_
    refine am_q_if_eqB rfl (fun c_34 => ?_) (fun c_34 => by simp at c_34)
    refine am_q_iload_n rfl rfl ?_
    refine am_q_call rfl rfl (s_placeOf _ _ (fun p hp => by have := hinv p hp; omega) _) rfl ?_
    refine am_q_ireturn rfl rfl rfl ?_
    exact ⟨_, rfl, hf⟩
  | cons pl vs ih =>
    intro j μ1 q hj hall hit hinv
    have hV1 := xVal_fr hit.1 hV
    obtain ⟨μ2, hc, hf2, hi2, hs2⟩ := s_nextC d n ν hV1 hO hm hit.2
    have hf := fr_tr hit.1 hf2
    have hV2 := xVal_fr hf2 hV1
    have hpk := hall pl List.mem_cons_self
    have h8w := pOk_8 hO hpk
    rw [List.length_cons] at hj
    have hall2 : ∀ w, w ∈ vs → pOk V w := fun w hw => hall w (List.mem_cons_of_mem _ hw)
    refine am_q_iload_n rfl rfl ?_
    refine am_q_ldc (v := nI 1000000) rfl rfl ?_
    refine am_q_igeN rfl (by omega) (by omega) (fun c_24 => absurd c_24 (by omega)) (fun c_24 => ?_)
    refine am_q_aload_n rfl rfl ?_
    refine am_q_gr rfl rfl rfl ?_
    refine am_q_call rfl rfl (hc) rfl ?_
    refine am_q_if_eqB rfl (fun c_34 => by simp at c_34) (fun c_34 => ?_)
    refine am_q_iload_n rfl rfl ?_
    refine am_q_zleN rfl (by omega) (fun c_38 => ?_) (fun c_38 => ?_)
    · have h0 : decide (0 < j) = false := decide_eq_false (by omega)
      rw [sureF, if_pos (Or.inl h0)]
      refine am_q_aload_n rfl rfl ?_
      refine am_q_gr rfl rfl rfl ?_
      refine am_q_gr rfl rfl rfl ?_
      refine am_q_iload_n rfl rfl ?_
      refine am_q_iald rfl rfl (by first | exact am_ix_nI (by omega) (by omega) | rfl) (hs2 _ (by omega)) ?_
      refine am_q_istore_n [some _, some _, some _, some _] rfl (Nat.le_of_ble_eq_true rfl) rfl ?_
      refine am_q_iinc [some _, some _, some _, some _] rfl (c := nI 1) rfl rfl (Nat.le_of_ble_eq_true rfl) (nI_add _ _) rfl ?_
      refine am_q_goto rfl ?_
      have e := ih (j + 1) μ2 (pl s) (by omega) hall2 ⟨hf, hi2⟩ (h8w s hs)
      rw [decide_eq_true (show 0 < j + 1 by omega)] at e
      exact e
    · have h0 : decide (0 < j) = true := decide_eq_true c_38
      refine am_q_aload_n rfl rfl ?_
      refine am_q_gr rfl rfl rfl ?_
      refine am_q_gr rfl rfl rfl ?_
      refine am_q_iload_n rfl rfl ?_
      refine am_q_iald rfl rfl (by first | exact am_ix_nI (by omega) (by omega) | rfl) (hs2 _ (by omega)) ?_
      refine am_q_iload_n rfl rfl ?_
      refine am_q_icmp_eq rfl (fun c_51 => ?_) (fun c_51 => ?_)
      · rw [sureF, if_pos (Or.inr (sn_spot_inj2 (h8w s hs) hinv c_51))]
        refine am_q_aload_n rfl rfl ?_
        refine am_q_gr rfl rfl rfl ?_
        refine am_q_gr rfl rfl rfl ?_
        refine am_q_iload_n rfl rfl ?_
        refine am_q_iald rfl rfl (by first | exact am_ix_nI (by omega) (by omega) | rfl) (hs2 _ (by omega)) ?_
        refine am_q_istore_n [some _, some _, some _, some _] rfl (Nat.le_of_ble_eq_true rfl) rfl ?_
        refine am_q_iinc [some _, some _, some _, some _] rfl (c := nI 1) rfl rfl (Nat.le_of_ble_eq_true rfl) (nI_add _ _) rfl ?_
        refine am_q_goto rfl ?_
        have e := ih (j + 1) μ2 (pl s) (by omega) hall2 ⟨hf, hi2⟩ (h8w s hs)
        rw [decide_eq_true (show 0 < j + 1 by omega)] at e
        exact e
      · rw [sureF, if_neg (fun z => by rcases z with z | z; rw [h0] at z; cases z; exact c_51 (by rw [z]))]
        refine am_q_iconst (v := -1) rfl rfl ?_
        refine am_q_ireturn rfl rfl rfl ?_
        exact ⟨_, rfl, hf⟩

/-- StoneSecrets.sure(I)I -/
theorem x_sure (d : Nat) (s : Int32) (n : Nat) {V : sVal} {W : sWall} {μ : am_M2} (ν : am_N2) (hV : xVal μ V) (hO : vOk V) (hW : xWall μ 35 W) (hI : sI (vN V) (vP V) W.1 W.2.1) (ht : W.2.2 < 2 ^ 20) : ∃ (μ' : am_M2), am_run (d + 6) 124 [.ref 2, .int s] (am_hp n μ ν) = some (some (.int (qSure V W s)), am_hp n μ' ν) ∧ fr μ μ' := by
  have h6 := hO.1.1
  have hP8 := hO.1.2.1
  have h8 := sI_8 hO hI
  obtain ⟨μ1, hb, hf1, hm, hi⟩ := s_beginWays (d + 2) n ν hV hO hW hI ht
  have hall := waysL_all (st := sSt V W) (sI_p hI) (sLo_N (V := V) (W := W))
  have hlen := waysL_262 hO (sLo V W) (sSt V W) W.2.1
  have key : ∃ r, am_run (d + 6) 124 [.ref 2, .int s] (am_hp n μ ν) = some r ∧ ∃ (μ' : am_M2), r = (some (.int (qSure V W s)), am_hp n μ' ν) ∧ fr μ μ' := am_run_wE (k := 124) (d := d + 5) rfl rfl (Nat.le_of_ble_eq_true rfl) [some (.ref 2), some (.int s), none, none] rfl (by
    refine am_q_aload_n rfl rfl ?_
    refine am_q_gr rfl rfl rfl ?_
    refine am_q_iload_n rfl rfl ?_
    refine am_q_call rfl rfl (s_isStone35 _ _ _ _ hV.1 hW hI) rfl ?_
    refine am_q_if_neB rfl (fun c_8 => ?_) (fun c_8 => ?_)
    · obtain ⟨k, hk, rfl, -⟩ := isStoK (W := W) c_8 h6
      refine am_q_iconst (v := nI 0) rfl rfl ?_
      refine am_q_istore_n [some _, some _, some _, none] rfl (Nat.le_of_ble_eq_true rfl) rfl ?_
      refine am_q_aload_n rfl rfl ?_
      refine am_q_call rfl rfl (hb) rfl ?_
      refine am_q_iconst (v := nI 0) rfl rfl ?_
      refine am_q_istore_n [some _, some _, some _, some _] rfl (Nat.le_of_ble_eq_true rfl) rfl ?_
      have e := x_sureL d k (by omega) n ν hV hO hm (waysOf V W) 0 μ1 none (by rw [Nat.zero_add]; exact hlen) hall ⟨hf1, hi⟩ (fun x h => by cases h)
      rw [qSure, if_pos (show isSto V W (nI k) = true from c_8), ik_nI (by omega)]
      exact e
    · have hno : ¬ isSto V W s = true := fun z => by unfold isSto at z; rw [z] at c_8; cases c_8
      refine am_q_iconst (v := -1) rfl rfl ?_
      refine am_q_ireturn rfl rfl rfl ?_
      exact ⟨_, by rw [qSure, if_neg hno], fr_rf _⟩)
  obtain ⟨r, h1, μ', h2, h3⟩ := key
  exact ⟨μ', by rw [h1, h2], h3⟩

def evS (V : sVal) (a : Option (Nat × Nat)) (i : Nat) (w : Nat → Option Nat) : Option (Nat × Nat) := match a with
  | none => some (leanN V w, i)
  | some b => if leanN V w < b.1 then some (leanN V w, i) else some b
def evF (V : sVal) : Option (Nat × Nat) → Nat → List (Nat → Option Nat) → Option (Nat × Nat)
  | a, _, [] => a
  | a, i, w :: vs => evF V (evS V a i w) (i + 1) vs
def p1 (a : Option (Nat × Nat)) : Int32 := match a with
  | none => -1
  | some b => nI b.1
def p2 (a : Option (Nat × Nat)) : Int32 := match a with
  | none => -1
  | some b => nI b.2
theorem evF_0 (V : sVal) (k : Nat) : ∀ ws i, evF V (some (0, k)) i ws = some (0, k)
  | [], _ => rfl
  | w :: vs, i => by rw [evF, evS, if_neg (Nat.not_lt_zero _)]; exact evF_0 V k vs (i + 1)
def qEven (V : sVal) (W : sWall) (w : Int32) : Int32 := if rIn w 0 1 = true then (if w = nI 0 then p1 (evF V none 0 (waysOf V W)) else p2 (evF V none 0 (waysOf V W))) else -1
def evV (x : Nat) (a : Option (Nat × Nat)) : Int32 := if x = 0 then p1 a else p2 a
theorem p1_0 {a : Option (Nat × Nat)} (ha : ∀ b, a = some b → b.1 < 2 ^ 31) (h : p1 a = 0) : ∃ k, a = some (0, k) := by
  cases a with
  | none => exact absurd h (by decide)
  | some b =>
    have : b.1 = 0 := (nI_eq (ha b rfl) (by decide)).mp h
    exact ⟨b.2, by rw [← this]⟩
theorem p1_m {a : Option (Nat × Nat)} (ha : ∀ b, a = some b → b.1 < 2 ^ 31) (h : p1 a = -1) : a = none := by
  cases a with
  | none => rfl
  | some b =>
    have := pl_none (q := some b.1) h (fun k hk => by cases hk; exact ha b rfl)
    cases this
theorem p1_s {a : Option (Nat × Nat)} (h : ¬ p1 a = -1) : ∃ b, a = some b := by
  cases a with
  | none => exact absurd rfl h
  | some b => exact ⟨b, rfl⟩
theorem x_evenL (d x : Nat) (hx : x ≤ 1) (n : Nat) {V : sVal} {ms : List Nat} {μ : am_M2} (ν : am_N2) (hV : xVal μ V) (hO : vOk V) (hm : msOk V ms) : ∀ (ws : List (Nat → Option Nat)) (j : Nat) (μ1 : am_M2) (a : Option (Nat × Nat)) (o5 : Option Value), j + ws.length ≤ 262144 → (∀ w, w ∈ ws → pOk V w) → fr μ μ1 ∧ xIt V ms μ1 ws → (∀ b, a = some b → b.1 ≤ 2000) → am_w (d + 5) (Option.some FieldType.int) am_g135 22 [some (.ref 2), some (.int (nI x)), some (.int (p1 a)), some (.int (p2 a)), some (.int (nI j)), o5] [] (am_hp n μ1 ν) (fun y => ∃ (μ' : am_M2), y = (some (.int (evV x (evF V a j ws))), am_hp n μ' ν) ∧ fr μ μ') := by
  intro ws
  induction ws with
  | nil =>
    intro j μ1 a o5 hj hall hit hinv
    have hV1 := xVal_fr hit.1 hV
    obtain ⟨μ2, hc, hf2⟩ := s_nextN d n ν hV1 hO hm hit.2
    have hf := fr_tr hit.1 hf2
    have hV2 := xVal_fr hf2 hV1
    have hjl : j ≤ 262144 := by simpa using hj
    refine am_q_iload rfl rfl ?_
    refine am_q_ldc (v := nI 1000000) rfl rfl ?_
    refine am_q_igeN rfl (by omega) (by omega) (fun c_26 => absurd c_26 (by omega)) (fun c_26 => ?_)
    refine am_q_iload_n rfl rfl ?_
    refine am_q_if_eq rfl (fun c_30 => ?_) (fun c_30 => ?_)
    · refine am_q_iload_n rfl rfl ?_
      refine am_q_zneN rfl (by omega) (fun c_83 => ?_) (fun c_83 => ?_)
      · refine am_q_iload_n rfl rfl ?_
        refine am_q_ireturn rfl rfl rfl ?_
        exact ⟨μ1, by simp [evF, evV, c_83], hit.1⟩
      · refine am_q_iload_n rfl rfl ?_
        refine am_q_goto rfl ?_
        refine am_q_ireturn rfl rfl rfl ?_
        exact ⟨μ1, by simp [evF, evV, c_83], hit.1⟩
    · refine am_q_aload_n rfl rfl ?_
      refine am_q_gr rfl rfl rfl ?_
      refine am_q_call rfl rfl (hc) rfl ?_
      refine am_q_if_eqB rfl (fun c_40 => ?_) (fun c_40 => by simp at c_40)
      refine am_q_iload_n rfl rfl ?_
      refine am_q_zneN rfl (by omega) (fun c_83 => ?_) (fun c_83 => ?_)
      · refine am_q_iload_n rfl rfl ?_
        refine am_q_ireturn rfl rfl rfl ?_
        exact ⟨μ2, by simp [evF, evV, c_83], hf⟩
      · refine am_q_iload_n rfl rfl ?_
        refine am_q_goto rfl ?_
        refine am_q_ireturn rfl rfl rfl ?_
        exact ⟨μ2, by simp [evF, evV, c_83], hf⟩
  | cons pl vs ih =>
    intro j μ1 a o5 hj hall hit hinv
    have hV1 := xVal_fr hit.1 hV
    obtain ⟨μ2, hc, hf2, hi2, hs2⟩ := s_nextC d n ν hV1 hO hm hit.2
    have hf := fr_tr hit.1 hf2
    have hV2 := xVal_fr hf2 hV1
    have hpk := hall pl List.mem_cons_self
    have h8w := pOk_8 hO hpk
    rw [List.length_cons] at hj
    have hall2 : ∀ w, w ∈ vs → pOk V w := fun w hw => hall w (List.mem_cons_of_mem _ hw)
    have hln := leanN_le hO hpk
    refine am_q_iload rfl rfl ?_
    refine am_q_ldc (v := nI 1000000) rfl rfl ?_
    refine am_q_igeN rfl (by omega) (by omega) (fun c_26 => absurd c_26 (by omega)) (fun c_26 => ?_)
    refine am_q_iload_n rfl rfl ?_
    refine am_q_if_eq rfl (fun c_30 => ?_) (fun c_30 => ?_)
    · obtain ⟨k0, hk0⟩ := p1_0 (fun b hb => by have := hinv b hb; omega) c_30
      rw [hk0, evF_0]
      refine am_q_iload_n rfl rfl ?_
      refine am_q_zneN rfl (by omega) (fun c_83 => ?_) (fun c_83 => ?_)
      · refine am_q_iload_n rfl rfl ?_
        refine am_q_ireturn rfl rfl rfl ?_
        exact ⟨_, by rw [← hk0]; simp [evV, c_83], hit.1⟩
      · refine am_q_iload_n rfl rfl ?_
        refine am_q_goto rfl ?_
        refine am_q_ireturn rfl rfl rfl ?_
        exact ⟨_, by rw [← hk0]; simp [evV, c_83], hit.1⟩
    · refine am_q_aload_n rfl rfl ?_
      refine am_q_gr rfl rfl rfl ?_
      refine am_q_call rfl rfl (hc) rfl ?_
      refine am_q_if_eqB rfl (fun c_40 => by simp at c_40) (fun c_40 => ?_)
      refine am_q_aload_n rfl rfl ?_
      refine am_q_gr rfl rfl rfl ?_
      refine am_q_aload_n rfl rfl ?_
      refine am_q_gr rfl rfl rfl ?_
      refine am_q_gr rfl rfl rfl ?_
      refine am_q_call rfl rfl (x_leanOf _ 123 n ν hV2 hO rfl hs2 h8w) rfl ?_
      rw [qLean_N hO hpk]
      refine am_q_istore [some _, some _, some _, some _, some _, some _] rfl (Nat.le_of_ble_eq_true rfl) rfl ?_
      refine am_q_iload_n rfl rfl ?_
      refine am_q_iconst (v := -1) rfl rfl ?_
      refine am_q_icmp_eq rfl (fun c_61 => ?_) (fun c_61 => ?_)
      · have ha := p1_m (fun b hb => by have := hinv b hb; omega) c_61
        have e := fun o => ih (j + 1) μ2 (some (leanN V pl, j)) o (by omega) hall2 ⟨hf, hi2⟩ (fun b hb => by cases hb; exact hln)
        rw [ha, evF, evS]
        refine am_q_iload rfl rfl ?_
        refine am_q_istore_n [some _, some _, some _, some _, some _, some _] rfl (Nat.le_of_ble_eq_true rfl) rfl ?_
        refine am_q_iload rfl rfl ?_
        refine am_q_istore_n [some _, some _, some _, some _, some _, some _] rfl (Nat.le_of_ble_eq_true rfl) rfl ?_
        refine am_q_iinc [some _, some _, some _, some _, some _, some _] rfl (c := nI 1) rfl rfl (Nat.le_of_ble_eq_true rfl) (nI_add _ _) rfl ?_
        refine am_q_goto rfl ?_
        exact e _
      · obtain ⟨b, ha⟩ := p1_s c_61
        have hb1 := hinv b ha
        subst ha
        refine am_q_iload rfl rfl ?_
        refine am_q_iload_n rfl rfl ?_
        refine am_q_icmp_ge rfl (fun c_67 => ?_) (fun c_67 => ?_)
        · have z67 : ¬ leanN V pl < b.1 := fun q => by have := (nI_leI (by omega) (by omega)).mp (show nI b.1 ≤ nI (leanN V pl) from c_67); omega
          have e := fun o => ih (j + 1) μ2 (some b) o (by omega) hall2 ⟨hf, hi2⟩ hinv
          rw [evF, evS, if_neg z67]
          refine am_q_iinc [some _, some _, some _, some _, some _, some _] rfl (c := nI 1) rfl rfl (Nat.le_of_ble_eq_true rfl) (nI_add _ _) rfl ?_
          refine am_q_goto rfl ?_
          exact e _
        · have z67 : leanN V pl < b.1 := Nat.lt_of_not_le (fun q => c_67 ((nI_leI (by omega) (by omega)).mpr q))
          have e := fun o => ih (j + 1) μ2 (some (leanN V pl, j)) o (by omega) hall2 ⟨hf, hi2⟩ (fun b hb => by cases hb; exact hln)
          rw [evF, evS, if_pos z67]
          refine am_q_iload rfl rfl ?_
          refine am_q_istore_n [some _, some _, some _, some _, some _, some _] rfl (Nat.le_of_ble_eq_true rfl) rfl ?_
          refine am_q_iload rfl rfl ?_
          refine am_q_istore_n [some _, some _, some _, some _, some _, some _] rfl (Nat.le_of_ble_eq_true rfl) rfl ?_
          refine am_q_iinc [some _, some _, some _, some _, some _, some _] rfl (c := nI 1) rfl rfl (Nat.le_of_ble_eq_true rfl) (nI_add _ _) rfl ?_
          refine am_q_goto rfl ?_
          exact e _

/-- StoneSecrets.even(I)I -/
theorem x_even (d : Nat) (w : Int32) (n : Nat) {V : sVal} {W : sWall} {μ : am_M2} (ν : am_N2) (hV : xVal μ V) (hO : vOk V) (hW : xWall μ 35 W) (hI : sI (vN V) (vP V) W.1 W.2.1) (ht : W.2.2 < 2 ^ 20) : ∃ (μ' : am_M2), am_run (d + 6) 135 [.ref 2, .int w] (am_hp n μ ν) = some (some (.int (qEven V W w)), am_hp n μ' ν) ∧ fr μ μ' := by
  have h6 := hO.1.1
  have hP8 := hO.1.2.1
  have h8 := sI_8 hO hI
  obtain ⟨μ1, hb, hf1, hm, hi⟩ := s_beginWays (d + 2) n ν hV hO hW hI ht
  have hall := waysL_all (st := sSt V W) (sI_p hI) (sLo_N (V := V) (W := W))
  have hlen := waysL_262 hO (sLo V W) (sSt V W) W.2.1
  have key : ∃ r, am_run (d + 6) 135 [.ref 2, .int w] (am_hp n μ ν) = some r ∧ ∃ (μ' : am_M2), r = (some (.int (qEven V W w)), am_hp n μ' ν) ∧ fr μ μ' := am_run_wE (k := 135) (d := d + 5) rfl rfl (Nat.le_of_ble_eq_true rfl) [some (.ref 2), some (.int w), none, none, none, none] rfl (by
    refine am_q_iload_n rfl rfl ?_
    refine am_q_if_lt rfl (fun c_1 => ?_) (fun c_1 => ?_)
    · have hno : rIn w 0 1 = false := rIn_lo c_1
      refine am_q_iconst (v := -1) rfl rfl ?_
      refine am_q_ireturn rfl rfl rfl ?_
      exact ⟨_, by rw [qEven, if_neg (by simp [hno])], fr_rf _⟩
    · refine am_q_iload_n rfl rfl ?_
      refine am_q_iconst (v := nI 1) rfl rfl ?_
      refine am_q_icmp_le rfl (fun c_6 => ?_) (fun c_6 => ?_)
      · have hyes := rIn_in (lo := 0) (hi := 1) c_1 (fun q => (fa_of_lt q).2.1 c_6)
        obtain ⟨k, -, hk2, rfl⟩ := rIn_k hyes (by decide) (by decide)
        refine am_q_iconst (v := -1) rfl rfl ?_
        refine am_q_istore_n [some _, some _, some _, none, none, none] rfl (Nat.le_of_ble_eq_true rfl) rfl ?_
        refine am_q_iconst (v := -1) rfl rfl ?_
        refine am_q_istore_n [some _, some _, some _, some _, none, none] rfl (Nat.le_of_ble_eq_true rfl) rfl ?_
        refine am_q_aload_n rfl rfl ?_
        refine am_q_call rfl rfl (hb) rfl ?_
        refine am_q_iconst (v := nI 0) rfl rfl ?_
        refine am_q_istore [some _, some _, some _, some _, some _, none] rfl (Nat.le_of_ble_eq_true rfl) rfl ?_
        have e := x_evenL d k hk2 n ν hV hO hm (waysOf V W) 0 μ1 none none (by rw [Nat.zero_add]; exact hlen) hall ⟨hf1, hi⟩ (fun b h => by cases h)
        rw [qEven, if_pos hyes, show (if nI k = nI 0 then p1 (evF V none 0 (waysOf V W)) else p2 (evF V none 0 (waysOf V W))) = evV k (evF V none 0 (waysOf V W)) by unfold evV; simp only [nI_eq (show k < 2 ^ 31 by omega) (show 0 < 2 ^ 31 by omega)]]
        exact e
      · have hno : rIn w 0 1 = false := rIn_hi (fa_of_nle c_6)
        refine am_q_iconst (v := -1) rfl rfl ?_
        refine am_q_ireturn rfl rfl rfl ?_
        exact ⟨_, by rw [qEven, if_neg (by simp [hno])], fr_rf _⟩)
  obtain ⟨r, h1, μ', h2, h3⟩ := key
  exact ⟨μ', by rw [h1, h2], h3⟩
