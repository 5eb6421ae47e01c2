/-- how many of a WAY stand behind w WEEKS -/
def stB (V : sVal) (t w : Nat) (pl : Nat → Option Nat) : Nat := sn_bc (sBits (fun s => (plW V t pl w s).isSome) (vN V))
def bsS (V : sVal) (t w : Nat) (a : Option (Nat × Nat)) (i : Nat) (pl : Nat → Option Nat) : Option (Nat × Nat) := match a with
  | none => some (stB V t w pl, i)
  | some b => if b.1 < stB V t w pl then some (stB V t w pl, i) else some b
def bsF (V : sVal) (t w : Nat) : Option (Nat × Nat) → Nat → List (Nat → Option Nat) → Option (Nat × Nat)
  | a, _, [] => a
  | a, i, pl :: vs => bsF V t w (bsS V t w a i pl) (i + 1) vs
theorem bsF_0 {V : sVal} {t w : Nat} {b : Nat × Nat} : ∀ ws i, (∀ pl, pl ∈ ws → stB V t w pl ≤ b.1) → bsF V t w (some b) i ws = some b
  | [], _, _ => rfl
  | pl :: vs, i, h => by
    rw [bsF, bsS, if_neg (by have := h pl List.mem_cons_self; omega)]
    exact bsF_0 vs (i + 1) (fun q hq => h q (List.mem_cons_of_mem _ hq))
def qBest (V : sVal) (W : sWall) (w x : Int32) : Int32 := if (rIn w 0 30 && rIn x 0 1) = true then evV (ik x) (bsF V W.2.2 (ik w) none 0 (waysOf V W)) else -1
theorem bc_mono : ∀ a, a < 64 → ∀ b, b < 64 → a &&& b = a → sn_bc a ≤ sn_bc b := by decide +kernel
theorem waysL_dom {V : sVal} : ∀ (ms : List Nat) (pl w : Nat → Option Nat) (s : Nat), w ∈ waysL V ms pl → (w s).isSome = true → s ∈ ms ∨ (pl s).isSome = true
  | [], pl, w, s, hw, h => by rw [waysL, List.mem_singleton] at hw; rw [hw] at h; exact Or.inr h
  | m :: ms, pl, w, s, hw, h => by
    rw [waysL, List.mem_flatMap] at hw
    obtain ⟨p, hp, hw⟩ := hw
    rcases waysL_dom ms _ w s hw h with q | q
    · exact Or.inl (List.mem_cons_of_mem _ q)
    · unfold fup at q
      by_cases z : s = m
      · exact Or.inl (by rw [z]; exact List.mem_cons_self)
      · rw [if_neg z] at q; exact Or.inr q
def sAll (V : sVal) (W : sWall) : Nat := sLo V W ||| sSt V W
theorem ways_dom {V : sVal} {W : sWall} (w : Nat → Option Nat) (hw : w ∈ waysOf V W) (s : Nat) (h : (w s).isSome = true) : (sAll V W).testBit s = true := by
  rw [sAll, Nat.testBit_or]
  rcases waysL_dom _ _ w s hw h with q | q
  · rw [((mvL_mem _ _ _).mp q).2]; rfl
  · unfold stP at q
    split at q
    · rename_i z; rw [z, Bool.or_true]
    · cases q
theorem stB_le {V : sVal} {t w b : Nat} {pl : Nat → Option Nat} (h6 : vN V ≤ 6) (hb : b < 64) (hd : ∀ s, (pl s).isSome = true → b.testBit s = true) : stB V t w pl ≤ sn_bc b := by
  refine bc_mono _ (sn_64 h6) b hb ?_
  apply Nat.eq_of_testBit_eq
  intro i
  rw [Nat.testBit_and, sBits_tb]
  cases hq : (plW V t pl w i).isSome with
  | false => simp
  | true =>
    obtain ⟨p, hp⟩ := Option.isSome_iff_exists.mp hq
    rw [hd i (by rw [plW_none w i p hp]; rfl)]; simp
theorem stB_6 {V : sVal} (h6 : vN V ≤ 6) (t w : Nat) (pl : Nat → Option Nat) : stB V t w pl ≤ 6 := sn_bc_le _ (sn_64 h6)
theorem p1_all {a : Option (Nat × Nat)} {n : Nat} (hn : n < 2 ^ 31) (ha : ∀ b, a = some b → b.1 < 2 ^ 31) (h : nI n ≤ p1 a) : ∃ b, a = some b ∧ n ≤ b.1 := by
  cases a with
  | none =>
    have h1 := Int32.le_iff_toInt_le.mp h
    rw [nI_toInt hn] at h1
    have h2 : (p1 none).toInt = -1 := by decide
    omega
  | some b => exact ⟨b, rfl, (nI_leI hn (ha b rfl)).mp h⟩
theorem p1_lt {a : Option (Nat × Nat)} {n : Nat} (hn : n < 2 ^ 31) (ha : ∀ b, a = some b → b.1 < 2 ^ 31) : nI n ≤ p1 a ↔ ∃ b, a = some b ∧ n ≤ b.1 :=
  ⟨p1_all hn ha, fun ⟨b, h1, h2⟩ => by rw [h1]; exact (nI_leI hn (ha b h1)).mpr h2⟩
theorem bsS_n {V : sVal} {t w : Nat} {a : Option (Nat × Nat)} {i : Nat} {pl : Nat → Option Nat} (h : ∃ b, a = some b ∧ stB V t w pl ≤ b.1) : bsS V t w a i pl = a := by
  obtain ⟨b, h1, h2⟩ := h
  rw [h1, bsS, if_neg (by omega)]
theorem bsS_y {V : sVal} {t w : Nat} {a : Option (Nat × Nat)} {i : Nat} {pl : Nat → Option Nat} (h : ¬ ∃ b, a = some b ∧ stB V t w pl ≤ b.1) : bsS V t w a i pl = some (stB V t w pl, i) := by
  cases a with
  | none => rfl
  | some b =>
    rw [bsS, if_pos]
    by_cases z : b.1 < stB V t w pl
    · exact z
    · exact absurd ⟨b, rfl, by omega⟩ h
theorem x_bestL (d : Nat) (n : Nat) {V : sVal} {ms : List Nat} {μ : am_M2} (ν : am_N2) (hV : xVal μ V) (hO : vOk V) (hm : msOk V ms) (t w b x : Nat) (hw : w ≤ 30) (hb : b < 64) (hx : x ≤ 1) : ∀ (ws : List (Nat → Option Nat)) (j : Nat) (μ1 : am_M2) (a : Option (Nat × Nat)) (o8 : Option Value), j + ws.length ≤ 262144 → (∀ w, w ∈ ws → pOk V w) → fr μ μ1 ∧ xIt V ms μ1 ws → (∀ c, a = some c → c.1 ≤ 6) ∧ xTb V t w b μ1 ∧ (∀ q, q ∈ ws → ∀ s, (q s).isSome = true → b.testBit s = true) → am_w (d + 5) (Option.some FieldType.int) am_g131 73 [some (.ref 2), some (.int (nI w)), some (.int (nI x)), some (.int (nI b)), some (.int (nI (sn_bc b))), some (.int (p1 a)), some (.int (p2 a)), some (.int (nI j)), o8] [] (am_hp n μ1 ν) (fun y => ∃ (μ' : am_M2), y = (some (.int (evV x (bsF V t w a j ws))), am_hp n μ' ν) ∧ fr μ μ') := by
  intro ws
  induction ws with
  | nil =>
    intro j μ1 a o8 hj hall hit hinv
    have hV1 := xVal_fr hit.1 hV
    obtain ⟨μ2, hc, hf2⟩ := s_nextN d n ν hV1 hO hm hit.2
    have hf := fr_tr hit.1 hf2
    have hV2 := xVal_fr hf2 hV1
    have hjl : j ≤ 262144 := by simpa using hj
    have h6 := hO.1.1
    have hbc := sn_bc_le b hb
    refine am_q_iload rfl rfl ?_
    refine am_q_ldc (v := nI 1000000) rfl rfl ?_
    refine am_q_igeN rfl (by omega) (by omega) (fun c_77 => absurd c_77 (by omega)) (fun c_77 => ?_)
    refine am_q_iload rfl rfl ?_
    refine am_q_iload rfl rfl ?_
    refine am_q_icmp_ge rfl (fun c_84 => ?_) (fun c_84 => ?_)
    · refine am_q_iload_n rfl rfl ?_
      refine am_q_zneN rfl (by omega) (fun c_146 => ?_) (fun c_146 => ?_)
      · refine am_q_iload rfl rfl ?_
        refine am_q_ireturn rfl rfl rfl ?_
        exact ⟨μ1, by simp [bsF, evV, c_146], hit.1⟩
      · refine am_q_iload rfl rfl ?_
        refine am_q_goto rfl ?_
        refine am_q_ireturn rfl rfl rfl ?_
        exact ⟨μ1, by simp [bsF, evV, c_146], hit.1⟩
    · refine am_q_aload_n rfl rfl ?_
      refine am_q_gr rfl rfl rfl ?_
      refine am_q_call rfl rfl (hc) rfl ?_
      refine am_q_if_eqB rfl (fun c_94 => ?_) (fun c_94 => by simp at c_94)
      refine am_q_iload_n rfl rfl ?_
      refine am_q_zneN rfl (by omega) (fun c_146 => ?_) (fun c_146 => ?_)
      · refine am_q_iload rfl rfl ?_
        refine am_q_ireturn rfl rfl rfl ?_
        exact ⟨μ2, by simp [bsF, evV, c_146], hf⟩
      · refine am_q_iload rfl rfl ?_
        refine am_q_goto rfl ?_
        refine am_q_ireturn rfl rfl rfl ?_
        exact ⟨μ2, by simp [bsF, evV, c_146], hf⟩
  | cons pl vs ih =>
    intro j μ1 a o8 hj hall hit hinv
    have hV1 := xVal_fr hit.1 hV
    obtain ⟨μ2, hc, hfw, hi2, hs2⟩ := s_nextCW d n ν hV1 hO hm hit.2
    have hf2 := fr_W hfw
    have hf := fr_tr hit.1 hf2
    have hV2 := xVal_fr hf2 hV1
    have hpk := hall pl List.mem_cons_self
    have h8w := pOk_8 hO hpk
    rw [List.length_cons] at hj
    have hall2 : ∀ w, w ∈ vs → pOk V w := fun w hw => hall w (List.mem_cons_of_mem _ hw)
    have h6 := hO.1.1
    have hT2 : xTb V t w b μ2 := xTb_R (fun i q => hfw i (by omega)) hinv.2.1
    obtain ⟨μ3, hr3, hf3, hF3⟩ := s_run123 (d + 2) t w b n ν hV2 hO (by omega) hT2 h8w (fun s _ hi => hinv.2.2 pl List.mem_cons_self s hi) hs2
    have hV3 := xVal_fr (fr_R hf3) hV2
    have hi3 := xIt_rows (fun i a b => hf3 i (by omega)) hi2
    have hT3 : xTb V t w b μ3 := xTb_R (fun i q => hf3 i (by omega)) hT2
    have hst := stB_6 h6 t w pl
    have hbc := sn_bc_le b hb
    refine am_q_iload rfl rfl ?_
    refine am_q_ldc (v := nI 1000000) rfl rfl ?_
    refine am_q_igeN rfl (by omega) (by omega) (fun c_77 => absurd c_77 (by omega)) (fun c_77 => ?_)
    refine am_q_iload rfl rfl ?_
    refine am_q_iload rfl rfl ?_
    refine am_q_icmp_ge rfl (fun c_84 => ?_) (fun c_84 => ?_)
    · obtain ⟨c, hc0, hc1⟩ := p1_all (by omega) (fun b hb => by have := hinv.1 b hb; omega) c_84
      rw [hc0, bsF_0 _ _ (fun q hq => Nat.le_trans (stB_le h6 hb (hinv.2.2 q hq)) hc1), ← hc0]
      refine am_q_iload_n rfl rfl ?_
      refine am_q_zneN rfl (by omega) (fun c_146 => ?_) (fun c_146 => ?_)
      · refine am_q_iload rfl rfl ?_
        refine am_q_ireturn rfl rfl rfl ?_
        exact ⟨μ1, by simp [evV, c_146], hit.1⟩
      · refine am_q_iload rfl rfl ?_
        refine am_q_goto rfl ?_
        refine am_q_ireturn rfl rfl rfl ?_
        exact ⟨μ1, by simp [evV, c_146], hit.1⟩
    · refine am_q_aload_n rfl rfl ?_
      refine am_q_gr rfl rfl rfl ?_
      refine am_q_call rfl rfl (hc) rfl ?_
      refine am_q_if_eqB rfl (fun c_94 => by simp at c_94) (fun c_94 => ?_)
      refine am_q_aload_n rfl rfl ?_
      refine am_q_gr rfl rfl rfl ?_
      refine am_q_aload_n rfl rfl ?_
      refine am_q_gr rfl rfl rfl ?_
      refine am_q_gr rfl rfl rfl ?_
      refine am_q_call rfl rfl (hr3) rfl ?_
      refine am_q_aload_n rfl rfl ?_
      refine am_q_gr rfl rfl rfl ?_
      refine am_q_iload_n rfl rfl ?_
      refine am_q_call rfl rfl (s_sb _ t w w n ν hV3 hO (by omega) (Nat.le_refl _) h8w hF3) rfl ?_
      refine am_q_call rfl rfl (s_bitCount _ _ (Nat.lt_trans (sn_64 h6) (by decide)) _) rfl ?_
      show am_w _ _ _ _ _ (.int (nI (stB V t w pl)) :: _) _ _
      refine am_q_istore [some _, some _, some _, some _, some _, some _, some _, some _, some _] rfl (Nat.le_of_ble_eq_true rfl) rfl ?_
      refine am_q_iload rfl rfl ?_
      refine am_q_iload rfl rfl ?_
      refine am_q_icmp_le rfl (fun c_128 => ?_) (fun c_128 => ?_)
      · have hz := p1_all (n := stB V t w pl) (by omega) (fun b hb => by have := hinv.1 b hb; omega) c_128
        have e := fun o => ih (j + 1) μ3 a o (by omega) hall2 ⟨fr_tr hf (fr_R hf3), hi3⟩ ⟨hinv.1, hT3, fun q hq => hinv.2.2 q (List.mem_cons_of_mem _ hq)⟩
        rw [bsF, bsS_n hz]
        refine am_q_iinc [some _, some _, some _, some _, some _, some _, some _, some _, some _] rfl (c := nI 1) rfl rfl (Nat.le_of_ble_eq_true rfl) (nI_add _ _) rfl ?_
        refine am_q_goto rfl ?_
        exact e _
      · have hz : ¬ ∃ c, a = some c ∧ stB V t w pl ≤ c.1 := fun z => c_128 ((p1_lt (by omega) (fun b hb => by have := hinv.1 b hb; omega)).mpr z)
        have e := fun o => ih (j + 1) μ3 (some (stB V t w pl, j)) o (by omega) hall2 ⟨fr_tr hf (fr_R hf3), hi3⟩ ⟨fun c hc => by cases hc; exact hst, hT3, fun q hq => hinv.2.2 q (List.mem_cons_of_mem _ hq)⟩
        rw [bsF, bsS_y hz]
        refine am_q_iload rfl rfl ?_
        refine am_q_istore [some _, some _, some _, some _, some _, some _, some _, some _, some _] rfl (Nat.le_of_ble_eq_true rfl) rfl ?_
        refine am_q_iload rfl rfl ?_
        refine am_q_istore [some _, some _, some _, some _, some _, some _, some _, some _, some _] rfl (Nat.le_of_ble_eq_true rfl) rfl ?_
        refine am_q_iinc [some _, some _, some _, some _, some _, some _, some _, some _, some _] rfl (c := nI 1) rfl rfl (Nat.le_of_ble_eq_true rfl) (nI_add _ _) rfl ?_
        refine am_q_goto rfl ?_
        exact e _

/-- StoneSecrets.best(II)I -/
theorem x_best (d : Nat) (w x : Int32) (n : Nat) {V : sVal} {W : sWall} {μ : am_M2} (ν : am_N2) (hV : xVal μ V) (hO : vOk V) (hW : xWall μ 35 W) (hI : sI (vN V) (vP V) W.1 W.2.1) (ht : W.2.2 < 2 ^ 20) : ∃ (μ' : am_M2), am_run (d + 6) 131 [.ref 2, .int w, .int x] (am_hp n μ ν) = some (some (.int (qBest V W w x)), am_hp n μ' ν) ∧ fr μ μ' := by
  have h6 := hO.1.1
  have hP8 := hO.1.2.1
  have h8 := sI_8 hO hI
  have hA : sAll V W < 64 := Nat.or_lt_two_pow (n := 6) (sn_64 h6) (sn_64 h6)
  have hall := waysL_all (st := sSt V W) (sI_p hI) (sLo_N (V := V) (W := W))
  have hlen := waysL_262 hO (sLo V W) (sSt V W) W.2.1
  have key : ∃ r, am_run (d + 6) 131 [.ref 2, .int w, .int x] (am_hp n μ ν) = some r ∧ ∃ (μ' : am_M2), r = (some (.int (qBest V W w x)), am_hp n μ' ν) ∧ fr μ μ' := am_run_wE (k := 131) (d := d + 5) rfl rfl (Nat.le_of_ble_eq_true rfl) [some (.ref 2), some (.int w), some (.int x), none, none, none, none, none, none] rfl (by
    refine am_q_iload_n rfl rfl ?_
    refine am_q_if_lt rfl (fun c_1 => ?_) (fun c_1 => ?_)
    · have hno : (rIn w 0 30 && rIn x 0 1) = false := by simp [show rIn w 0 30 = false from rIn_lo c_1]
      refine am_q_iconst (v := -1) rfl rfl ?_
      refine am_q_ireturn rfl rfl rfl ?_
      exact ⟨_, by rw [qBest, if_neg (by simp [hno])], fr_rf _⟩
    · refine am_q_iload_n rfl rfl ?_
      refine am_q_bipush (v := nI 30) rfl rfl ?_
      refine am_q_icmp_gt rfl (fun c_7 => ?_) (fun c_7 => ?_)
      · have hno : (rIn w 0 30 && rIn x 0 1) = false := by simp [rIn_hi c_7]
        refine am_q_iconst (v := -1) rfl rfl ?_
        refine am_q_ireturn rfl rfl rfl ?_
        exact ⟨_, by rw [qBest, if_neg (by simp [hno])], fr_rf _⟩
      · refine am_q_iload_n rfl rfl ?_
        refine am_q_if_lt rfl (fun c_11 => ?_) (fun c_11 => ?_)
        · have hno : (rIn w 0 30 && rIn x 0 1) = false := by simp [show rIn x 0 1 = false from rIn_lo c_11]
          refine am_q_iconst (v := -1) rfl rfl ?_
          refine am_q_ireturn rfl rfl rfl ?_
          exact ⟨_, by rw [qBest, if_neg (by simp [hno])], fr_rf _⟩
        · refine am_q_iload_n rfl rfl ?_
          refine am_q_iconst (v := nI 1) rfl rfl ?_
          refine am_q_icmp_le rfl (fun c_16 => ?_) (fun c_16 => ?_)
          · have r1 := rIn_in (lo := 0) (hi := 30) c_1 c_7
            have r2 := rIn_in (lo := 0) (hi := 1) c_11 (fun q => (fa_of_lt q).2.1 c_16)
            have hyes : (rIn w 0 30 && rIn x 0 1) = true := by simp [r1, r2]
            obtain ⟨kw, -, hw2, rfl⟩ := rIn_k r1 (by decide) (by decide)
            obtain ⟨kx, -, hx2, rfl⟩ := rIn_k r2 (by decide) (by decide)
            obtain ⟨μ1, hp, hfp, hT⟩ := s_prepare d W.2.2 kw (sAll V W) n ν hV hO ht (by omega) hA
            have hV1 := xVal_fr (fr_P hfp) hV
            have hW1 := xW_fr (fr_P hfp) (Or.inl rfl) hW
            obtain ⟨μ2, hb, hfw, hm, hi⟩ := s_beginWaysW (d + 2) n ν hV1 hO hW1 hI ht
            rw [qBest, if_pos hyes, ik_nI (by omega), ik_nI (by omega)]
            refine am_q_aload_n rfl rfl ?_
            refine am_q_gr rfl rfl rfl ?_
            refine am_q_call rfl rfl (s_loose _ _ _ hV.1 hW hI) rfl ?_
            refine am_q_aload_n rfl rfl ?_
            refine am_q_gr rfl rfl rfl ?_
            refine am_q_iconst (v := nI 2) rfl rfl ?_
            refine am_q_call rfl rfl (s_who35 _ _ (by omega) _ _ hV.1 hW hI) rfl ?_
            refine am_q_ior rfl (show nI (sLo V W) ||| nI (sSt V W) = nI (sAll V W) from sn_or _ _) ?_
            refine am_q_istore_n [some _, some _, some _, some _, none, none, none, none, none] rfl (Nat.le_of_ble_eq_true rfl) rfl ?_
            refine am_q_iload_n rfl rfl ?_
            refine am_q_call rfl rfl (s_bitCount _ _ (by omega) _) rfl ?_
            refine am_q_istore [some _, some _, some _, some _, some _, none, none, none, none] rfl (Nat.le_of_ble_eq_true rfl) rfl ?_
            refine am_q_iconst (v := -1) rfl rfl ?_
            refine am_q_istore [some _, some _, some _, some _, some _, some _, none, none, none] rfl (Nat.le_of_ble_eq_true rfl) rfl ?_
            refine am_q_iconst (v := -1) rfl rfl ?_
            refine am_q_istore [some _, some _, some _, some _, some _, some _, some _, none, none] rfl (Nat.le_of_ble_eq_true rfl) rfl ?_
            refine am_q_aload_n rfl rfl ?_
            refine am_q_gr rfl rfl rfl ?_
            refine am_q_aload_n rfl rfl ?_
            refine am_q_gr rfl rfl rfl ?_
            refine am_q_gi rfl rfl rfl hW.2.2 ?_
            refine am_q_iload_n rfl rfl ?_
            refine am_q_iload_n rfl rfl ?_
            refine am_q_call rfl rfl (hp) rfl ?_
            refine am_q_aload_n rfl rfl ?_
            refine am_q_call rfl rfl (hb) rfl ?_
            refine am_q_iconst (v := nI 0) rfl rfl ?_
            refine am_q_istore [some _, some _, some _, some _, some _, some _, some _, some _, none] rfl (Nat.le_of_ble_eq_true rfl) rfl ?_
            exact x_bestL d n ν hV hO hm W.2.2 kw (sAll V W) kx hw2 hA hx2 (waysOf V W) 0 μ2 none none (by rw [Nat.zero_add]; exact hlen) hall ⟨fr_tr (fr_P hfp) (fr_W hfw), hi⟩ ⟨fun c h => (by cases h), xTb_R (fun i q => hfw i (by omega)) hT, fun q hq s hs => ways_dom q hq s hs⟩
          · have hno : (rIn w 0 30 && rIn x 0 1) = false := by simp [rIn_hi (fa_of_nle c_16)]
            refine am_q_iconst (v := -1) rfl rfl ?_
            refine am_q_ireturn rfl rfl rfl ?_
            exact ⟨_, by rw [qBest, if_neg (by simp [hno])], fr_rf _⟩)
  obtain ⟨r, h1, μ', h2, h3⟩ := key
  exact ⟨μ', by rw [h1, h2], h3⟩
