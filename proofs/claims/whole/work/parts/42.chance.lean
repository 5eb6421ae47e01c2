/-- a WEEK of a frost -/
def wk (V : sVal) (T : sWall) (c : Nat) : sWall := (wkSt V T.1 T.2.1 T.2.2 c, wkPl V T.2.1 T.2.2 c, T.2.2 + 1)
theorem wkI {V : sVal} {T : sWall} {c : Nat} (hI : sI (vN V) (vP V) T.1 T.2.1) : sI (vN V) (vP V) (wk V T c).1 (wk V T c).2.1 := wk_I hI
theorem wk_n2 {V : sVal} {T : sWall} {c s : Nat} (h : ¬ T.1 s = 2) : ¬ (wk V T c).1 s = 2 := by
  show ¬ wkSt V T.1 T.2.1 T.2.2 c s = 2
  unfold wkSt
  split
  · split
    · omega
    · split
      · omega
      · exact h
  · exact h
/-- how likely, in millionths -/
def shN (f w od : Nat) : Nat → Nat := lpF (fun i x => if w ≤ i then x * 10 else x * (if f.testBit i = true then od else 10 - od)) 1
theorem shN_le {f w od : Nat} (h : od ≤ 10) : ∀ n, shN f w od n ≤ 10 ^ n
  | 0 => Nat.le_refl _
  | n + 1 => by
    have := shN_le (f := f) (w := w) h n
    rw [shN, lpF_s, Nat.pow_succ]
    rw [shN] at this
    split
    · exact Nat.mul_le_mul this (Nat.le_refl _)
    · apply Nat.mul_le_mul this
      split <;> omega
def olT (V : sVal) (W : sWall) (f : Nat) : Nat → sWall := lpF (fun i T => wk V T (if f.testBit i = true then 9 else 0)) W
theorem olT_I {V : sVal} {W : sWall} {f : Nat} (hI : sI (vN V) (vP V) W.1 W.2.1) : ∀ n, sI (vN V) (vP V) (olT V W f n).1 (olT V W f n).2.1 ∧ (olT V W f n).2.2 = W.2.2 + n
  | 0 => ⟨hI, rfl⟩
  | n + 1 => ⟨wkI (olT_I hI n).1, by show (olT V W f n).2.2 + 1 = _; rw [(olT_I hI n).2]; omega⟩
theorem olT_n2 {V : sVal} {W : sWall} {f s : Nat} {n : Nat} (h : ¬ (olT V W f n).1 s = 2) : ∀ m, ¬ (olT V W f (n + m)).1 s = 2
  | 0 => h
  | m + 1 => wk_n2 (olT_n2 h m)
def cSum (V : sVal) (W : sWall) (s w od : Nat) : Nat → Nat := lpF (fun f x => if (olT V W f w).1 s = 2 then x + shN f w od 6 else x) 0
def qChance (V : sVal) (W : sWall) (s w od : Int32) : Int32 := if (sIs (vN V) W.1 s 2 && rIn w 1 6 && rIn od 0 10) = true then nI (cSum V W (ik s) (ik w) (ik od) (2 ^ ik w)) else -1
theorem s_shareL (d f w od : Nat) (hf : f < 2 ^ 31) (hw : w ≤ 6) (ho : od ≤ 10) (h : am_H) : ∀ (m j : Nat) , j + m = 6 → am_w (d + 1) (Option.some FieldType.int) am_g164 5 [some (.int (nI f)), some (.int (nI w)), some (.int (nI od)), some (.int (nI (shN f w od j))), some (.int (nI j))] [] (h) (fun y => y = (some (.int (nI (shN f w od 6))), h)) := by
  intro m
  induction m with
  | zero =>
    intro j  hj
    refine am_q_iload rfl rfl ?_
    refine am_q_bipush (v := nI 6) rfl rfl ?_
    refine am_q_igeN rfl (by omega) (by omega) (fun c_9 => ?_) (fun c_9 => absurd c_9 (by omega))
    refine am_q_iload_n rfl rfl ?_
    refine am_q_ireturn rfl rfl rfl ?_
    rw [show j = 6 by omega]
  | succ m ih =>
    intro j  hj
    have e := ih (j + 1) (by omega)
    rw [shN, lpF_s] at e
    refine am_q_iload rfl rfl ?_
    refine am_q_bipush (v := nI 6) rfl rfl ?_
    refine am_q_igeN rfl (by omega) (by omega) (fun c_9 => absurd c_9 (by omega)) (fun c_9 => ?_)
    refine am_q_iload rfl rfl ?_
    refine am_q_iload_n rfl rfl ?_
    refine am_q_iltN rfl (by omega) (by omega) (fun c_15 => ?_) (fun c_15 => ?_)
    · rw [if_neg (by omega)] at e
      refine am_q_iload_n rfl rfl ?_
      refine am_q_iload_n rfl rfl ?_
      refine am_q_iload rfl rfl ?_
      refine am_q_call rfl rfl (s_hasN _ _ _ (by omega) (by omega) _) rfl ?_
      refine am_q_if_eqB rfl (fun c_33 => ?_) (fun c_33 => ?_)
      · rw [if_neg (by simp [c_33])] at e
        refine am_q_bipush (v := nI 10) rfl rfl ?_
        refine am_q_iload_n rfl rfl ?_
        refine am_q_isub rfl (pk_sub (by omega)) ?_
        refine am_q_imul rfl (pk_mul _ _) ?_
        refine am_q_istore_n [some _, some _, some _, some _, some _] rfl (Nat.le_of_ble_eq_true rfl) rfl ?_
        refine am_q_iinc [some _, some _, some _, some _, some _] rfl (c := nI 1) rfl rfl (Nat.le_of_ble_eq_true rfl) (nI_add _ _) rfl ?_
        refine am_q_goto rfl ?_
        exact e
      · rw [if_pos c_33] at e
        refine am_q_iload_n rfl rfl ?_
        refine am_q_goto rfl ?_
        refine am_q_imul rfl (pk_mul _ _) ?_
        refine am_q_istore_n [some _, some _, some _, some _, some _] rfl (Nat.le_of_ble_eq_true rfl) rfl ?_
        refine am_q_iinc [some _, some _, some _, some _, some _] rfl (c := nI 1) rfl rfl (Nat.le_of_ble_eq_true rfl) (nI_add _ _) rfl ?_
        refine am_q_goto rfl ?_
        exact e
    · rw [if_pos c_15] at e
      refine am_q_iload_n rfl rfl ?_
      refine am_q_bipush (v := nI 10) rfl rfl ?_
      refine am_q_imul rfl (pk_mul _ _) ?_
      refine am_q_istore_n [some _, some _, some _, some _, some _] rfl (Nat.le_of_ble_eq_true rfl) rfl ?_
      refine am_q_goto rfl ?_
      refine am_q_iinc [some _, some _, some _, some _, some _] rfl (c := nI 1) rfl rfl (Nat.le_of_ble_eq_true rfl) (nI_add _ _) rfl ?_
      refine am_q_goto rfl ?_
      exact e

/-- StoneSecrets.shareOf(III)I -/
theorem s_share (d : Nat) (f w od : Nat) (hf : f < 2 ^ 31) (hw : w ≤ 6) (ho : od ≤ 10) (h : am_H) : am_run (d + 2) 164 [.int (nI f), .int (nI w), .int (nI od)] (h) = some (some (.int (nI (shN f w od 6))), h) := by
  refine am_r164 (d := d + 1) (Nat.le_of_ble_eq_true rfl) [some (.int (nI f)), some (.int (nI w)), some (.int (nI od)), none, none] rfl ?_
  refine am_q_iconst (v := nI 1) rfl rfl ?_
  refine am_q_istore_n [some _, some _, some _, some _, none] rfl (Nat.le_of_ble_eq_true rfl) rfl ?_
  refine am_q_iconst (v := nI 0) rfl rfl ?_
  refine am_q_istore [some _, some _, some _, some _, some _] rfl (Nat.le_of_ble_eq_true rfl) rfl ?_
  exact s_shareL d f w od hf hw ho h 6 0 (by omega)

theorem s_outlL (d : Nat) (n : Nat) {V : sVal} {W : sWall} {μ : am_M2} (ν : am_N2) (hV : xVal μ V) (hO : vOk V) (hW : xWall μ 35 W) (hI : sI (vN V) (vP V) W.1 W.2.1) (ht : W.2.2 < 2 ^ 20) (s f w : Nat) (hs : s < vN V) (hf : f < 2 ^ 31) (hw : w ≤ 6) : ∀ (m j : Nat) (μ1 : am_M2), j + m = w → fr μ μ1 ∧ xWall μ1 38 (olT V W f j) → am_w (d + 5) (Option.some FieldType.boolean) am_g165 14 [some (.ref 2), some (.int (nI s)), some (.int (nI f)), some (.int (nI w)), some (.int (nI j))] [] (am_hp n μ1 ν) (fun y => ∃ (μ' : am_M2), y = (some (.int (sB (decide ((olT V W f w).1 s = 2)))), am_hp n μ' ν) ∧ fr μ μ') := by
  intro m
  induction m with
  | zero =>
    intro j μ1 hj hinv
    have h6 := hO.1.1
    have hP8 := hO.1.2.1
    have h8 := sI_8 hO hI
    have hV1 := xVal_fr hinv.1 hV
    have hJ := olT_I (f := f) hI j
    refine am_q_iload rfl rfl ?_
    refine am_q_iload_n rfl rfl ?_
    refine am_q_igeN rfl (by omega) (by omega) (fun c_17 => ?_) (fun c_17 => absurd c_17 (by omega))
    refine am_q_aload_n rfl rfl ?_
    refine am_q_gr rfl rfl rfl ?_
    refine am_q_iload_n rfl rfl ?_
    refine am_q_iconst (v := nI 2) rfl rfl ?_
    refine am_q_call rfl rfl (s_is38 _ _ _ (by omega) _ _ hV1.1 hinv.2 hJ.1) rfl ?_
    rw [sIs_nI hs (by omega)]
    refine am_q_ireturn rfl rfl (sB_ok _) ?_
    exact ⟨_, by rw [show j = w by omega], hinv.1⟩
  | succ m ih =>
    intro j μ1 hj hinv
    have h6 := hO.1.1
    have hP8 := hO.1.2.1
    have h8 := sI_8 hO hI
    have hV1 := xVal_fr hinv.1 hV
    have hJ := olT_I (f := f) hI j
    obtain ⟨μ2, hc, hf2, hT2⟩ := s_pw38 d (if f.testBit j = true then 9 else 0) n ν hV1 hO hinv.2 hJ.1 (by omega)
    refine am_q_iload rfl rfl ?_
    refine am_q_iload_n rfl rfl ?_
    refine am_q_igeN rfl (by omega) (by omega) (fun c_17 => absurd c_17 (by omega)) (fun c_17 => ?_)
    refine am_q_aload_n rfl rfl ?_
    refine am_q_gr rfl rfl rfl ?_
    refine am_q_iload_n rfl rfl ?_
    refine am_q_iconst (v := nI 2) rfl rfl ?_
    refine am_q_call rfl rfl (s_is38 _ _ _ (by omega) _ _ hV1.1 hinv.2 hJ.1) rfl ?_
    rw [sIs_nI hs (by omega)]
    refine am_q_if_eqB rfl (fun c_29 => ?_) (fun c_29 => ?_)
    · refine am_q_aload_n rfl rfl ?_
      refine am_q_gr rfl rfl rfl ?_
      refine am_q_iload_n rfl rfl ?_
      refine am_q_iconst (v := nI 2) rfl rfl ?_
      refine am_q_call rfl rfl (s_is38 _ _ _ (by omega) _ _ hV1.1 hinv.2 hJ.1) rfl ?_
      rw [sIs_nI hs (by omega)]
      refine am_q_ireturn rfl rfl (sB_ok _) ?_
      have c_29 := of_decide_eq_false c_29
      have := olT_n2 c_29 (m + 1)
      rw [hj] at this
      exact ⟨_, by rw [decide_eq_false c_29, decide_eq_false this], hinv.1⟩
    · refine am_q_aload_n rfl rfl ?_
      refine am_q_gr rfl rfl rfl ?_
      refine am_q_iload_n rfl rfl ?_
      refine am_q_iload rfl rfl ?_
      refine am_q_call rfl rfl (s_hasN _ _ _ (by omega) (by omega) _) rfl ?_
      refine am_q_if_eqB rfl (fun c_42 => ?_) (fun c_42 => ?_)
      · rw [if_neg (by simp [c_42])] at hc
        refine am_q_iconst (v := nI 0) rfl rfl ?_
        refine am_q_call rfl rfl (hc) rfl ?_
        refine am_q_popi rfl ?_
        refine am_q_iinc [some _, some _, some _, some _, some _] rfl (c := nI 1) rfl rfl (Nat.le_of_ble_eq_true rfl) (nI_add _ _) rfl ?_
        refine am_q_goto rfl ?_
        exact ih (j + 1) μ2 (by omega) ⟨fr_tr hinv.1 hf2, hT2⟩
      · rw [if_pos c_42] at hc
        refine am_q_bipush (v := nI 9) rfl rfl ?_
        refine am_q_goto rfl ?_
        refine am_q_call rfl rfl (hc) rfl ?_
        refine am_q_popi rfl ?_
        refine am_q_iinc [some _, some _, some _, some _, some _] rfl (c := nI 1) rfl rfl (Nat.le_of_ble_eq_true rfl) (nI_add _ _) rfl ?_
        refine am_q_goto rfl ?_
        exact ih (j + 1) μ2 (by omega) ⟨fr_tr hinv.1 hf2, hT2⟩

/-- StoneSecrets.outlasts(III)Z -/
theorem s_outl (d : Nat) (n : Nat) {V : sVal} {W : sWall} {μ : am_M2} (ν : am_N2) (hV : xVal μ V) (hO : vOk V) (hW : xWall μ 35 W) (hI : sI (vN V) (vP V) W.1 W.2.1) (ht : W.2.2 < 2 ^ 20) (s f w : Nat) (hs : s < vN V) (hf : f < 2 ^ 31) (hw : w ≤ 6) : ∃ (μ' : am_M2), am_run (d + 6) 165 [.ref 2, .int (nI s), .int (nI f), .int (nI w)] (am_hp n μ ν) = some (some (.int (sB (decide ((olT V W f w).1 s = 2)))), am_hp n μ' ν) ∧ fr μ μ' := by
  obtain ⟨μ1, hc, hf1, hT⟩ := s_tcopy (d + 4) n ν hW
  have key : ∃ r, am_run (d + 6) 165 [.ref 2, .int (nI s), .int (nI f), .int (nI w)] (am_hp n μ ν) = some r ∧ ∃ (μ' : am_M2), r = (some (.int (sB (decide ((olT V W f w).1 s = 2)))), am_hp n μ' ν) ∧ fr μ μ' := am_run_wE (k := 165) (d := d + 5) rfl rfl (Nat.le_of_ble_eq_true rfl) [some (.ref 2), some (.int (nI s)), some (.int (nI f)), some (.int (nI w)), none] rfl (by
    refine am_q_aload_n rfl rfl ?_
    refine am_q_gr rfl rfl rfl ?_
    refine am_q_aload_n rfl rfl ?_
    refine am_q_gr rfl rfl rfl ?_
    refine am_q_call rfl rfl (hc) rfl ?_
    refine am_q_iconst (v := nI 0) rfl rfl ?_
    refine am_q_istore [some _, some _, some _, some _, some _] rfl (Nat.le_of_ble_eq_true rfl) rfl ?_
    exact s_outlL d n ν hV hO hW hI ht s f w hs hf hw w 0 μ1 (by omega) ⟨hf1, hT⟩)
  obtain ⟨r, h1, μ', h2, h3⟩ := key
  exact ⟨μ', by rw [h1, h2], h3⟩

theorem x_chanceL (d : Nat) (n : Nat) {V : sVal} {W : sWall} {μ : am_M2} (ν : am_N2) (hV : xVal μ V) (hO : vOk V) (hW : xWall μ 35 W) (hI : sI (vN V) (vP V) W.1 W.2.1) (ht : W.2.2 < 2 ^ 20) (s w od : Nat) (hs : s < vN V) (hw1 : 1 ≤ w) (hw : w ≤ 6) (ho : od ≤ 10) : ∀ (m j : Nat) (μ1 : am_M2) (o6 : Option Value), j + m = 2 ^ w → fr μ μ1 → am_w (d + 6) (Option.some FieldType.int) am_g163 41 [some (.ref 2), some (.int (nI s)), some (.int (nI w)), some (.int (nI od)), some (.int (nI (cSum V W s w od j))), some (.int (nI j)), o6] [] (am_hp n μ1 ν) (fun y => ∃ (μ' : am_M2), y = (some (.int (nI (cSum V W s w od (2 ^ w)))), am_hp n μ' ν) ∧ fr μ μ') := by
  intro m
  induction m with
  | zero =>
    intro j μ1 o6 hj hinv
    have h6 := hO.1.1
    have hP8 := hO.1.2.1
    have h8 := sI_8 hO hI
    have h26 : 2 ^ w ≤ 2 ^ 6 := Nat.pow_le_pow_right (by decide) hw
    refine am_q_iload rfl rfl ?_
    refine am_q_iconst (v := nI 1) rfl rfl ?_
    refine am_q_iload_n rfl rfl ?_
    refine am_q_ishl rfl (sn_shl1 (by omega)) ?_
    refine am_q_igeN rfl (by omega) (by omega) (fun c_46 => ?_) (fun c_46 => absurd c_46 (by omega))
    refine am_q_iload rfl rfl ?_
    refine am_q_ireturn rfl rfl rfl ?_
    exact ⟨_, by rw [show j = 2 ^ w by omega], hinv⟩
  | succ m ih =>
    intro j μ1 o6 hj hinv
    have h6 := hO.1.1
    have hP8 := hO.1.2.1
    have h8 := sI_8 hO hI
    have h26 : 2 ^ w ≤ 2 ^ 6 := Nat.pow_le_pow_right (by decide) hw
    have hsh := shN_le (f := j) (w := w) ho 6
    have hV1 := xVal_fr hinv hV
    have hW1 := xW_fr hinv (Or.inl rfl) hW
    obtain ⟨μ2, hc, hf2⟩ := s_outl d n ν hV1 hO hW1 hI ht s j w hs (by omega) hw
    have e1 := fun o => ih (j + 1) μ1 o (by omega) hinv
    have e2 := fun o => ih (j + 1) μ2 o (by omega) (fr_tr hinv hf2)
    simp only [cSum, lpF_s] at e1 e2
    refine am_q_iload rfl rfl ?_
    refine am_q_iconst (v := nI 1) rfl rfl ?_
    refine am_q_iload_n rfl rfl ?_
    refine am_q_ishl rfl (sn_shl1 (by omega)) ?_
    refine am_q_igeN rfl (by omega) (by omega) (fun c_46 => absurd c_46 (by omega)) (fun c_46 => ?_)
    refine am_q_iload rfl rfl ?_
    refine am_q_iload_n rfl rfl ?_
    refine am_q_iload_n rfl rfl ?_
    refine am_q_call rfl rfl (s_share _ j w od (by omega) hw ho _) rfl ?_
    refine am_q_istore [some _, some _, some _, some _, some _, some _, some _] rfl (Nat.le_of_ble_eq_true rfl) rfl ?_
    refine am_q_iload rfl rfl ?_
    refine am_q_zleN rfl (by omega) (fun c_60 => ?_) (fun c_60 => ?_)
    · have z0 : shN j w od 6 = 0 := by omega
      simp only [z0, Nat.add_zero, ite_self] at e1
      refine am_q_iinc [some _, some _, some _, some _, some _, some _, some _] rfl (c := nI 1) rfl rfl (Nat.le_of_ble_eq_true rfl) (nI_add _ _) rfl ?_
      refine am_q_goto rfl ?_
      first | exact e2 _ | exact e1 _
    · refine am_q_aload_n rfl rfl ?_
      refine am_q_iload_n rfl rfl ?_
      refine am_q_iload rfl rfl ?_
      refine am_q_iload_n rfl rfl ?_
      refine am_q_call rfl rfl (hc) rfl ?_
      refine am_q_if_eqB rfl (fun c_71 => ?_) (fun c_71 => ?_)
      · simp only [if_neg (of_decide_eq_false c_71)] at e2
        refine am_q_iinc [some _, some _, some _, some _, some _, some _, some _] rfl (c := nI 1) rfl rfl (Nat.le_of_ble_eq_true rfl) (nI_add _ _) rfl ?_
        refine am_q_goto rfl ?_
        first | exact e2 _ | exact e1 _
      · simp only [if_pos (of_decide_eq_true c_71)] at e2
        refine am_q_iload rfl rfl ?_
        refine am_q_iload rfl rfl ?_
        refine am_q_iadd rfl (nI_add _ _) ?_
        refine am_q_istore [some _, some _, some _, some _, some _, some _, some _] rfl (Nat.le_of_ble_eq_true rfl) rfl ?_
        refine am_q_iinc [some _, some _, some _, some _, some _, some _, some _] rfl (c := nI 1) rfl rfl (Nat.le_of_ble_eq_true rfl) (nI_add _ _) rfl ?_
        refine am_q_goto rfl ?_
        first | exact e2 _ | exact e1 _

/-- StoneSecrets.chance(III)I -/
theorem x_chance (d : Nat) (s w od : Int32) (n : Nat) {V : sVal} {W : sWall} {μ : am_M2} (ν : am_N2) (hV : xVal μ V) (hO : vOk V) (hW : xWall μ 35 W) (hI : sI (vN V) (vP V) W.1 W.2.1) (ht : W.2.2 < 2 ^ 20) : ∃ (μ' : am_M2), am_run (d + 7) 163 [.ref 2, .int s, .int w, .int od] (am_hp n μ ν) = some (some (.int (qChance V W s w od)), am_hp n μ' ν) ∧ fr μ μ' := by
  have h6 := hO.1.1
  have hP8 := hO.1.2.1
  have h8 := sI_8 hO hI
  have key : ∃ r, am_run (d + 7) 163 [.ref 2, .int s, .int w, .int od] (am_hp n μ ν) = some r ∧ ∃ (μ' : am_M2), r = (some (.int (qChance V W s w od)), am_hp n μ' ν) ∧ fr μ μ' := am_run_wE (k := 163) (d := d + 6) rfl rfl (Nat.le_of_ble_eq_true rfl) [some (.ref 2), some (.int s), some (.int w), some (.int od), none, none, none] rfl (by
    refine am_q_aload_n rfl rfl ?_
    refine am_q_gr rfl rfl rfl ?_
    refine am_q_iload_n rfl rfl ?_
    refine am_q_iconst (v := nI 2) rfl rfl ?_
    refine am_q_call rfl rfl (s_is35 _ _ _ (by omega) _ _ hV.1 hW hI) rfl ?_
    refine am_q_if_eqB rfl (fun c_9 => ?_) (fun c_9 => ?_)
    · have hno : (sIs (vN V) W.1 s 2 && rIn w 1 6 && rIn od 0 10) = false := by simp [c_9]
      refine am_q_iconst (v := -1) rfl rfl ?_
      refine am_q_ireturn rfl rfl rfl ?_
      exact ⟨_, by rw [qChance, if_neg (by simp [hno])], fr_rf _⟩
    · refine am_q_iload_n rfl rfl ?_
      refine am_q_iconst (v := nI 1) rfl rfl ?_
      refine am_q_icmp_lt rfl (fun c_14 => ?_) (fun c_14 => ?_)
      · have hno : (sIs (vN V) W.1 s 2 && rIn w 1 6 && rIn od 0 10) = false := by simp [rIn_lo c_14]
        refine am_q_iconst (v := -1) rfl rfl ?_
        refine am_q_ireturn rfl rfl rfl ?_
        exact ⟨_, by rw [qChance, if_neg (by simp [hno])], fr_rf _⟩
      · refine am_q_iload_n rfl rfl ?_
        refine am_q_bipush (v := nI 6) rfl rfl ?_
        refine am_q_icmp_gt rfl (fun c_20 => ?_) (fun c_20 => ?_)
        · have hno : (sIs (vN V) W.1 s 2 && rIn w 1 6 && rIn od 0 10) = false := by simp [rIn_hi c_20]
          refine am_q_iconst (v := -1) rfl rfl ?_
          refine am_q_ireturn rfl rfl rfl ?_
          exact ⟨_, by rw [qChance, if_neg (by simp [hno])], fr_rf _⟩
        · refine am_q_iload_n rfl rfl ?_
          refine am_q_if_lt rfl (fun c_24 => ?_) (fun c_24 => ?_)
          · have hno : (sIs (vN V) W.1 s 2 && rIn w 1 6 && rIn od 0 10) = false := by simp [show rIn od 0 10 = false from rIn_lo c_24]
            refine am_q_iconst (v := -1) rfl rfl ?_
            refine am_q_ireturn rfl rfl rfl ?_
            exact ⟨_, by rw [qChance, if_neg (by simp [hno])], fr_rf _⟩
          · refine am_q_iload_n rfl rfl ?_
            refine am_q_bipush (v := nI 10) rfl rfl ?_
            refine am_q_icmp_le rfl (fun c_30 => ?_) (fun c_30 => ?_)
            · have r1 := rIn_in (lo := 1) (hi := 6) c_14 c_20
              have r2 := rIn_in (lo := 0) (hi := 10) c_24 (fun q => (fa_of_lt q).2.1 c_30)
              have hyes : (sIs (vN V) W.1 s 2 && rIn w 1 6 && rIn od 0 10) = true := by simp [c_9, r1, r2]
              obtain ⟨k, hk, rfl, -, -⟩ := isK c_9 h6
              obtain ⟨kw, hw1, hw2, rfl⟩ := rIn_k r1 (by decide) (by decide)
              obtain ⟨ko, -, ho2, rfl⟩ := rIn_k r2 (by decide) (by decide)
              rw [qChance, if_pos hyes, ik_nI (by omega), ik_nI (by omega), ik_nI (by omega)]
              refine am_q_iconst (v := nI 0) rfl rfl ?_
              refine am_q_istore [some _, some _, some _, some _, some _, none, none] rfl (Nat.le_of_ble_eq_true rfl) rfl ?_
              refine am_q_iconst (v := nI 0) rfl rfl ?_
              refine am_q_istore [some _, some _, some _, some _, some _, some _, none] rfl (Nat.le_of_ble_eq_true rfl) rfl ?_
              exact x_chanceL d n ν hV hO hW hI ht k kw ko hk hw1 hw2 ho2 (2 ^ kw) 0 μ none (by omega) (fr_rf _)
            · have hno : (sIs (vN V) W.1 s 2 && rIn w 1 6 && rIn od 0 10) = false := by simp [rIn_hi (fa_of_nle c_30)]
              refine am_q_iconst (v := -1) rfl rfl ?_
              refine am_q_ireturn rfl rfl rfl ?_
              exact ⟨_, by rw [qChance, if_neg (by simp [hno])], fr_rf _⟩)
  obtain ⟨r, h1, μ', h2, h3⟩ := key
  exact ⟨μ', by rw [h1, h2], h3⟩
