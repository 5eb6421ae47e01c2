def sNo (V : sVal) (W : sWall) : Nat := sBits (fun s => decide (W.1 s ≠ 4)) (vN V)
theorem sNo_eq {V : sVal} (hO : vOk V) (W : sWall) : nI (2 ^ vN V - 1) &&& (nI (sBits (fun s => decide (W.1 s = 4)) (vN V)) ^^^ -1) = nI (sNo V W) := by
  have h6 := hO.1.1
  have hT : sBits (fun s => decide (W.1 s = 4)) (vN V) < 2 ^ 32 := Nat.lt_trans (sn_64 h6) (by decide)
  rw [sn_andn _ hT]
  congr 1
  apply Nat.eq_of_testBit_eq
  intro i
  rw [sNo, sBits_tb, Nat.testBit_and, Nat.testBit_two_pow_sub_one, Nat.testBit_two_pow_sub_succ hT, sBits_tb]
  by_cases h : i < vN V
  · simp [h, show i < 32 by omega]
  · simp [h]
def c0 : Nat → Option Nat := fun _ => none
/-- how many walls it takes -/
def coB (V : sVal) (b L : Nat) : Bool := (pnt V b L (vN V) 0 c0).isSome
def coN (V : sVal) (b : Nat) : Nat := fa_first (coB V b) 7
theorem coB_6 {V : sVal} (hO : vOk V) (b : Nat) : coB V b 6 = true := by
  have h6 := hO.1.1
  unfold coB
  cases h : pnt V b 6 (vN V) 0 c0 with
  | none => exact absurd h (pnt_ok _ _ _ (by omega))
  | some c => rfl
theorem coN_lt {V : sVal} (hO : vOk V) (b : Nat) : coN V b ≤ 6 := by
  by_cases h : coN V b ≤ 6
  · exact h
  · have := fa_first_no (coB V b) 7 6 (by unfold coN at h; omega)
    rw [coB_6 hO b] at this; cases this
theorem coN_some {V : sVal} (hO : vOk V) (b : Nat) : ∃ c, pnt V b (coN V b) (vN V) 0 c0 = some c := by
  have h := fa_first_yes (coB V b) 7 (by have := coN_lt hO b; unfold coN at this; omega)
  exact Option.isSome_iff_exists.mp h
def coC (V : sVal) (b : Nat) : Nat → Option Nat := (pnt V b (coN V b) (vN V) 0 c0).getD c0
/-- StoneSecrets$Wall.notOut()I -/
theorem s_notOut (d : Nat) (n : Nat) {V : sVal} {W : sWall} {μ : am_M2} (ν : am_N2) (hV : xVal μ V) (hO : vOk V) (hW : xWall μ 35 W) (hI : sI (vN V) (vP V) W.1 W.2.1) (ht : W.2.2 < 2 ^ 20) : am_run (d + 2) 137 [.ref 35] (am_hp n μ ν) = some (some (.int (nI (sNo V W))), am_hp n μ ν) := by
  have h6 := hO.1.1
  have hP8 := hO.1.2.1
  have h8 := sI_8 hO hI
  refine am_r137 (d := d + 1) (Nat.le_of_ble_eq_true rfl) [some (.ref 35)] rfl ?_
  refine am_q_iconst (v := nI 1) rfl rfl ?_
  refine am_q_aload_n rfl rfl ?_
  refine am_q_gr rfl rfl rfl ?_
  refine am_q_gi rfl rfl rfl hV.1.1 ?_
  refine am_q_ishl rfl (sn_shl1 (by omega)) ?_
  refine am_q_iconst (v := nI 1) rfl rfl ?_
  refine am_q_isub rfl (show nI (2 ^ vN V) - nI 1 = nI (2 ^ vN V - 1) from pk_sub (Nat.two_pow_pos _)) ?_
  refine am_q_aload_n rfl rfl ?_
  refine am_q_iconst (v := nI 4) rfl rfl ?_
  refine am_q_call rfl rfl (s_who35 _ _ (by omega) _ _ hV.1 hW hI) rfl ?_
  refine am_q_iconst (v := -1) rfl rfl ?_
  refine am_q_ixor rfl rfl ?_
  refine am_q_iand rfl (sNo_eq hO W) ?_
  refine am_q_ireturn rfl rfl rfl ?_
  rfl

theorem s_paintL (d b n : Nat) {V : sVal} {μ : am_M2} (ν : am_N2) (hV : xVal μ V) (hO : vOk V) (hb : b < 64) : ∀ (m j : Nat) (μ1 : am_M2), j + m = coN V b → frC μ μ1 ∧ (∀ L, L < j → coB V b L = false) → am_w (d + 9) (Option.some FieldType.int) am_g138 2 [some (.ref 130), some (.int (nI b)), some (.int (nI j))] [] (am_hp n μ1 ν) (fun y => ∃ (μ' : am_M2), y = (some (.int (nI (coN V b))), am_hp n μ' ν) ∧ fr μ μ' ∧ xC (coC V b) (μ' 131) (vN V)) := by
  intro m
  induction m with
  | zero =>
    intro j μ1 hj hinv
    have h6 := hO.1.1
    have hcl := coN_lt hO b
    have hV1 := xVal_fr (fr_C hinv.1) hV
    obtain ⟨y, hy, μ2, hy2, hf2, hm2⟩ := s_pf b (coN V b) n ν hO hb (by omega) (vN V) (d + (6 - vN V)) 0 c0 μ1 (by omega) hV1 (fun x hx => by omega)
    rw [hy2, show d + (6 - vN V) + vN V + 3 = d + 9 by omega] at hy
    obtain ⟨c, hcs⟩ := coN_some hO b
    rw [hcs] at hy hm2
    have hji : j = coN V b := by omega
    subst hji
    refine am_q_iload_n rfl rfl ?_
    refine am_q_bipush (v := nI 6) rfl rfl ?_
    refine am_q_igtN rfl (by omega) (by omega) (fun c_5 => absurd c_5 (by omega)) (fun c_5 => ?_)
    refine am_q_aload_n rfl rfl ?_
    refine am_q_iconst (v := nI 0) rfl rfl ?_
    refine am_q_iload_n rfl rfl ?_
    refine am_q_iload_n rfl rfl ?_
    refine am_q_call rfl rfl (hy) rfl ?_
    refine am_q_if_neB rfl (fun c_15 => ?_) (fun c_15 => by cases c_15)
    refine am_q_iload_n rfl rfl ?_
    refine am_q_ireturn rfl rfl rfl ?_
    exact ⟨μ2, rfl, fr_C (frC_tr hinv.1 hf2), by unfold coC; rw [hcs]; exact hm2⟩
  | succ m ih =>
    intro j μ1 hj hinv
    have h6 := hO.1.1
    have hcl := coN_lt hO b
    have hV1 := xVal_fr (fr_C hinv.1) hV
    obtain ⟨y, hy, μ2, hy2, hf2, hm2⟩ := s_pf b j n ν hO hb (by omega) (vN V) (d + (6 - vN V)) 0 c0 μ1 (by omega) hV1 (fun x hx => by omega)
    rw [hy2, show d + (6 - vN V) + vN V + 3 = d + 9 by omega] at hy
    have hno : coB V b j = false := fa_first_no (coB V b) 7 j (by unfold coN at hj; omega)
    refine am_q_iload_n rfl rfl ?_
    refine am_q_bipush (v := nI 6) rfl rfl ?_
    refine am_q_igtN rfl (by omega) (by omega) (fun c_5 => absurd c_5 (by omega)) (fun c_5 => ?_)
    refine am_q_aload_n rfl rfl ?_
    refine am_q_iconst (v := nI 0) rfl rfl ?_
    refine am_q_iload_n rfl rfl ?_
    refine am_q_iload_n rfl rfl ?_
    refine am_q_call rfl rfl (hy) rfl ?_
    refine am_q_if_neB rfl (fun c_15 => by unfold coB at hno; rw [hno] at c_15; cases c_15) (fun c_15 => ?_)
    refine am_q_iinc [some _, some _, some _] rfl (c := nI 1) rfl rfl (Nat.le_of_ble_eq_true rfl) (nI_add _ _) rfl ?_
    refine am_q_goto rfl ?_
    exact ih (j + 1) μ2 (by omega) ⟨frC_tr hinv.1 hf2, fun L hL => by by_cases z : L < j; exact hinv.2 L z; rw [show L = j by omega]; exact hno⟩

/-- StoneSecrets$Feuds.paint(I)I -/
theorem s_paint (d : Nat) (b n : Nat) {V : sVal} {μ : am_M2} (ν : am_N2) (hV : xVal μ V) (hO : vOk V) (hb : b < 64) : ∃ (μ' : am_M2), am_run (d + 10) 138 [.ref 130, .int (nI b)] (am_hp n μ ν) = some (some (.int (nI (coN V b))), am_hp n μ' ν) ∧ fr μ μ' ∧ xC (coC V b) (μ' 131) (vN V) := by
  have key : ∃ r, am_run (d + 10) 138 [.ref 130, .int (nI b)] (am_hp n μ ν) = some r ∧ ∃ (μ' : am_M2), r = (some (.int (nI (coN V b))), am_hp n μ' ν) ∧ fr μ μ' ∧ xC (coC V b) (μ' 131) (vN V) := am_run_wE (k := 138) (d := d + 9) rfl rfl (Nat.le_of_ble_eq_true rfl) [some (.ref 130), some (.int (nI b)), none] rfl (by
    refine am_q_iconst (v := nI 0) rfl rfl ?_
    refine am_q_istore_n [some _, some _, some _] rfl (Nat.le_of_ble_eq_true rfl) rfl ?_
    exact s_paintL d b n ν hV hO hb (coN V b) 0 μ (by omega) ⟨frC_rf _, fun L hL => absurd hL (Nat.not_lt_zero L)⟩)
  obtain ⟨r, h1, μ', h2, h3⟩ := key
  exact ⟨μ', by rw [h1, h2], h3⟩

/-- StoneSecrets.colours()I -/
theorem x_colours (d : Nat) (n : Nat) {V : sVal} {W : sWall} {μ : am_M2} (ν : am_N2) (hV : xVal μ V) (hO : vOk V) (hW : xWall μ 35 W) (hI : sI (vN V) (vP V) W.1 W.2.1) (ht : W.2.2 < 2 ^ 20) : ∃ (μ' : am_M2), am_run (d + 11) 136 [.ref 2] (am_hp n μ ν) = some (some (.int (nI (coN V (sNo V W)))), am_hp n μ' ν) ∧ fr μ μ' := by
  have h6 := hO.1.1
  have hP8 := hO.1.2.1
  have h8 := sI_8 hO hI
  obtain ⟨μ1, hc, hf, -⟩ := s_paint d (sNo V W) n ν hV hO (sn_64 h6)
  have key : ∃ r, am_run (d + 11) 136 [.ref 2] (am_hp n μ ν) = some r ∧ ∃ (μ' : am_M2), r = (some (.int (nI (coN V (sNo V W)))), am_hp n μ' ν) ∧ fr μ μ' := am_run_wE (k := 136) (d := d + 10) rfl rfl (Nat.le_of_ble_eq_true rfl) [some (.ref 2)] rfl (by
    refine am_q_aload_n rfl rfl ?_
    refine am_q_gr rfl rfl rfl ?_
    refine am_q_aload_n rfl rfl ?_
    refine am_q_gr rfl rfl rfl ?_
    refine am_q_call rfl rfl (s_notOut _ n ν hV hO hW hI ht) rfl ?_
    refine am_q_call rfl rfl (hc) rfl ?_
    refine am_q_ireturn rfl rfl rfl ?_
    exact ⟨_, rfl, hf⟩)
  obtain ⟨r, h1, μ', h2, h3⟩ := key
  exact ⟨μ', by rw [h1, h2], h3⟩

def qColour (V : sVal) (W : sWall) (s : Int32) : Int32 := if (am_ix s (vN V)).isSome = true ∧ sIs (vN V) W.1 s 4 = false then sn_place (coC V (sNo V W) (ik s)) else -1
/-- StoneSecrets.colour(I)I -/
theorem x_colour (d : Nat) (s : Int32) (n : Nat) {V : sVal} {W : sWall} {μ : am_M2} (ν : am_N2) (hV : xVal μ V) (hO : vOk V) (hW : xWall μ 35 W) (hI : sI (vN V) (vP V) W.1 W.2.1) (ht : W.2.2 < 2 ^ 20) : ∃ (μ' : am_M2), am_run (d + 11) 141 [.ref 2, .int s] (am_hp n μ ν) = some (some (.int (qColour V W s)), am_hp n μ' ν) ∧ fr μ μ' := by
  have h6 := hO.1.1
  have hP8 := hO.1.2.1
  have h8 := sI_8 hO hI
  obtain ⟨μ1, hc, hf, hx⟩ := s_paint d (sNo V W) n ν hV hO (sn_64 h6)
  have key : ∃ r, am_run (d + 11) 141 [.ref 2, .int s] (am_hp n μ ν) = some r ∧ ∃ (μ' : am_M2), r = (some (.int (qColour V W s)), am_hp n μ' ν) ∧ fr μ μ' := am_run_wE (k := 141) (d := d + 10) rfl rfl (Nat.le_of_ble_eq_true rfl) [some (.ref 2), some (.int s)] rfl (by
    refine am_q_aload_n rfl rfl ?_
    refine am_q_gr rfl rfl rfl ?_
    refine am_q_iload_n rfl rfl ?_
    refine am_q_call rfl rfl (s_hasSoul _ _ _ _ hV.1) rfl ?_
    refine am_q_if_eqB rfl (fun c_8 => ?_) (fun c_8 => ?_)
    · have hno : ¬ ((am_ix s (vN V)).isSome = true ∧ sIs (vN V) W.1 s 4 = false) := fun z => by rw [z.1] at c_8; cases c_8
      refine am_q_iconst (v := -1) rfl rfl ?_
      refine am_q_ireturn rfl rfl rfl ?_
      exact ⟨_, by rw [qColour, if_neg hno], fr_rf _⟩
    · obtain ⟨k, hk, rfl, -⟩ := isI c_8 (by omega)
      refine am_q_aload_n rfl rfl ?_
      refine am_q_gr rfl rfl rfl ?_
      refine am_q_iload_n rfl rfl ?_
      refine am_q_iconst (v := nI 4) rfl rfl ?_
      refine am_q_call rfl rfl (s_is35 _ _ _ (by omega) _ _ hV.1 hW hI) rfl ?_
      refine am_q_if_eqB rfl (fun c_20 => ?_) (fun c_20 => ?_)
      · refine am_q_aload_n rfl rfl ?_
        refine am_q_gr rfl rfl rfl ?_
        refine am_q_aload_n rfl rfl ?_
        refine am_q_gr rfl rfl rfl ?_
        refine am_q_call rfl rfl (s_notOut _ n ν hV hO hW hI ht) rfl ?_
        refine am_q_call rfl rfl (hc) rfl ?_
        refine am_q_popi rfl ?_
        refine am_q_aload_n rfl rfl ?_
        refine am_q_gr rfl rfl rfl ?_
        refine am_q_gr rfl rfl rfl ?_
        refine am_q_iload_n rfl rfl ?_
        refine am_q_iald rfl rfl (by first | exact am_ix_nI (by omega) (by omega) | rfl) (hx k hk).1 ?_
        refine am_q_ireturn rfl rfl rfl ?_
        exact ⟨_, by rw [qColour, if_pos ⟨c_8, c_20⟩, ik_nI (by omega)], hf⟩
      · have hno : ¬ ((am_ix (nI k) (vN V)).isSome = true ∧ sIs (vN V) W.1 (nI k) 4 = false) := fun z => by rw [z.2] at c_20; cases c_20
        refine am_q_iconst (v := -1) rfl rfl ?_
        refine am_q_ireturn rfl rfl rfl ?_
        exact ⟨_, by rw [qColour, if_neg hno], fr_rf _⟩)
  obtain ⟨r, h1, μ', h2, h3⟩ := key
  exact ⟨μ', by rw [h1, h2], h3⟩

def oth (j s : Nat) : Nat := j &&& (2 ^ 32 - (2 ^ s + 1))
def alS (V : sVal) (h : Bool) (j s : Nat) : Bool := !j.testBit s || decide (vFo V s &&& oth j s = if h = true then oth j s else 0)
def alk (V : sVal) (h : Bool) (j : Nat) : Nat → Bool := lpF (fun s b => b && alS V h j s) true
theorem alk_no {V : sVal} {h : Bool} {j n : Nat} (hn : alk V h j n = false) : ∀ m, alk V h j (n + m) = false
  | 0 => hn
  | m + 1 => by rw [← Nat.add_assoc, alk, lpF_s]; have := alk_no hn m; rw [alk] at this; rw [this]; rfl
def laS (V : sVal) (b : Nat) (h : Bool) : Nat → Nat := lpF (fun j x => if sn_bc x < sn_bc j ∧ j &&& b = j ∧ alk V h j (vN V) = true then j else x) 0
theorem laS_y {V : sVal} {b j : Nat} {h : Bool} (z : sn_bc (laS V b h j) < sn_bc j ∧ j &&& b = j ∧ alk V h j (vN V) = true) : laS V b h (j + 1) = j := if_pos z
theorem laS_n {V : sVal} {b j : Nat} {h : Bool} (z : ¬ (sn_bc (laS V b h j) < sn_bc j ∧ j &&& b = j ∧ alk V h j (vN V) = true)) : laS V b h (j + 1) = laS V b h j := if_neg z
theorem laS_le (V : sVal) (b : Nat) (h : Bool) : ∀ n, laS V b h n ≤ n
  | 0 => Nat.le_refl _
  | n + 1 => by
    have := laS_le V b h n
    by_cases z : sn_bc (laS V b h n) < sn_bc n ∧ n &&& b = n ∧ alk V h n (vN V) = true
    · rw [laS_y z]; omega
    · rw [laS_n z]; omega
theorem sB_t : sB true = nI 1 := rfl
theorem sB_f : sB false = nI 0 := rfl
theorem s_alike_true (d : Nat) (i : Nat) (hi : i < 64) (n : Nat) {V : sVal} {μ : am_M2} (ν : am_N2) (hV : xVal μ V) (hO : vOk V) : ∀ (m j : Nat) (o4 : Option Value) (o5 : Option Value), j + m = vN V → alk V true i j = true → am_w (d + 1) (Option.some FieldType.boolean) am_g144 2 [some (.ref 130), some (.int (nI i)), some (.int (sB (true))), some (.int (nI j)), o4, o5] [] (am_hp n μ ν) (fun y => y = (some (.int (sB (alk V true i (vN V)))), am_hp n μ ν)) := by
  intro m
  induction m with
  | zero =>
    intro j o4 o5 hj hinv
    have h6 := hO.1.1
    refine am_q_iload_n rfl rfl ?_
    refine am_q_aload_n rfl rfl ?_
    refine am_q_gr rfl rfl rfl ?_
    refine am_q_gi rfl rfl rfl hV.1.1 ?_
    refine am_q_igeN rfl (by omega) (by omega) (fun c_10 => ?_) (fun c_10 => absurd c_10 (by omega))
    refine am_q_iconst (v := nI 1) rfl rfl ?_
    refine am_q_ireturn rfl rfl rfl ?_
    rw [← show j = vN V by omega, hinv]; rfl
  | succ m ih =>
    intro j o4 o5 hj hinv
    have h6 := hO.1.1
    have hfo := vFo_lt hO (s := j) (by omega)
    have hot : oth i j < 64 := Nat.lt_of_le_of_lt Nat.and_le_left hi
    have hfa : vFo V j &&& oth i j < 64 := Nat.lt_of_le_of_lt Nat.and_le_left hfo
    have hp2 : 2 ^ j < 2 ^ 32 := Nat.pow_lt_pow_right (by decide) (by omega)
    have e1 : alk V true i (j + 1) = (alk V true i j && alS V true i j) := rfl
    rw [hinv, Bool.true_and, alS] at e1
    refine am_q_iload_n rfl rfl ?_
    refine am_q_aload_n rfl rfl ?_
    refine am_q_gr rfl rfl rfl ?_
    refine am_q_gi rfl rfl rfl hV.1.1 ?_
    refine am_q_igeN rfl (by omega) (by omega) (fun c_10 => absurd c_10 (by omega)) (fun c_10 => ?_)
    refine am_q_iload_n rfl rfl ?_
    refine am_q_iconst (v := nI 1) rfl rfl ?_
    refine am_q_iload_n rfl rfl ?_
    refine am_q_ishl rfl (sn_shl1 (by omega)) ?_
    refine am_q_iconst (v := -1) rfl rfl ?_
    refine am_q_ixor rfl rfl ?_
    refine am_q_iand rfl (show nI i &&& (nI (2 ^ j) ^^^ -1) = nI (oth i j) from sn_andn _ hp2) ?_
    refine am_q_istore [some _, some _, some _, some _, some _, _] rfl (Nat.le_of_ble_eq_true rfl) rfl ?_
    refine am_q_iload_n rfl rfl ?_
    refine am_q_if_eqB rfl (fun c_23 => by simp at c_23) (fun c_23 => ?_)
    refine am_q_iload rfl rfl ?_
    refine am_q_goto rfl ?_
    refine am_q_istore [some _, some _, some _, some _, some _, some _] rfl (Nat.le_of_ble_eq_true rfl) rfl ?_
    refine am_q_iload_n rfl rfl ?_
    refine am_q_iload_n rfl rfl ?_
    refine am_q_call rfl rfl (s_hasN _ _ _ (by omega) (by omega) _) rfl ?_
    refine am_q_if_eqB rfl (fun c_39 => ?_) (fun c_39 => ?_)
    · rw [c_39] at e1
      have e2 : alk V true i (j + 1) = true := e1
      refine am_q_iinc [some _, some _, some _, some _, some _, some _] rfl (c := nI 1) rfl rfl (Nat.le_of_ble_eq_true rfl) (nI_add _ _) rfl ?_
      refine am_q_goto rfl ?_
      exact ih (j + 1) _ _ (by omega) e2
    · rw [c_39] at e1
      refine am_q_aload_n rfl rfl ?_
      refine am_q_gr rfl rfl rfl ?_
      refine am_q_gr rfl rfl rfl ?_
      refine am_q_iload_n rfl rfl ?_
      refine am_q_iald rfl rfl (by first | exact am_ix_nI (by omega) (by omega) | rfl) (hV.2.2.2.1 _ (by omega)).2.2.2.2 ?_
      refine am_q_iload rfl rfl ?_
      refine am_q_iand rfl (sn_and _ _) ?_
      refine am_q_iload rfl rfl ?_
      refine am_q_ieqN rfl (by omega) (by omega) (fun c_56 => ?_) (fun c_56 => ?_)
      · have e2 : alk V true i (j + 1) = true := by rw [e1, decide_eq_true (show vFo V j &&& oth i j = if true = true then oth i j else 0 by simpa using c_56)]; rfl
        refine am_q_iinc [some _, some _, some _, some _, some _, some _] rfl (c := nI 1) rfl rfl (Nat.le_of_ble_eq_true rfl) (nI_add _ _) rfl ?_
        refine am_q_goto rfl ?_
        exact ih (j + 1) _ _ (by omega) e2
      · have e2 : alk V true i (j + 1) = false := by rw [e1, decide_eq_false (show ¬ (vFo V j &&& oth i j = if true = true then oth i j else 0) by simpa using c_56)]; rfl
        refine am_q_iconst (v := nI 0) rfl rfl ?_
        refine am_q_ireturn rfl rfl rfl ?_
        have e3 := alk_no e2 m
        rw [show j + 1 + m = vN V by omega] at e3
        rw [e3]; rfl

theorem s_alk_true (d : Nat) (i : Nat) (hi : i < 64) (n : Nat) {V : sVal} {μ : am_M2} (ν : am_N2) (hV : xVal μ V) (hO : vOk V) : am_run (d + 2) 144 [.ref 130, .int (nI i), .int (sB (true))] (am_hp n μ ν) = some (some (.int (sB (alk V true i (vN V)))), am_hp n μ ν) := by
  refine am_r144 (d := d + 1) (Nat.le_of_ble_eq_true rfl) [some (.ref 130), some (.int (nI i)), some (.int (sB (true))), none, none, none] rfl ?_
  refine am_q_iconst (v := nI 0) rfl rfl ?_
  refine am_q_istore_n [some _, some _, some _, some _, none, none] rfl (Nat.le_of_ble_eq_true rfl) rfl ?_
  exact s_alike_true d i hi n ν hV hO (vN V) 0 none none (by omega) rfl

theorem s_alike_false (d : Nat) (i : Nat) (hi : i < 64) (n : Nat) {V : sVal} {μ : am_M2} (ν : am_N2) (hV : xVal μ V) (hO : vOk V) : ∀ (m j : Nat) (o4 : Option Value) (o5 : Option Value), j + m = vN V → alk V false i j = true → am_w (d + 1) (Option.some FieldType.boolean) am_g144 2 [some (.ref 130), some (.int (nI i)), some (.int (sB (false))), some (.int (nI j)), o4, o5] [] (am_hp n μ ν) (fun y => y = (some (.int (sB (alk V false i (vN V)))), am_hp n μ ν)) := by
  intro m
  induction m with
  | zero =>
    intro j o4 o5 hj hinv
    have h6 := hO.1.1
    refine am_q_iload_n rfl rfl ?_
    refine am_q_aload_n rfl rfl ?_
    refine am_q_gr rfl rfl rfl ?_
    refine am_q_gi rfl rfl rfl hV.1.1 ?_
    refine am_q_igeN rfl (by omega) (by omega) (fun c_10 => ?_) (fun c_10 => absurd c_10 (by omega))
    refine am_q_iconst (v := nI 1) rfl rfl ?_
    refine am_q_ireturn rfl rfl rfl ?_
    rw [← show j = vN V by omega, hinv]; rfl
  | succ m ih =>
    intro j o4 o5 hj hinv
    have h6 := hO.1.1
    have hfo := vFo_lt hO (s := j) (by omega)
    have hot : oth i j < 64 := Nat.lt_of_le_of_lt Nat.and_le_left hi
    have hfa : vFo V j &&& oth i j < 64 := Nat.lt_of_le_of_lt Nat.and_le_left hfo
    have hp2 : 2 ^ j < 2 ^ 32 := Nat.pow_lt_pow_right (by decide) (by omega)
    have e1 : alk V false i (j + 1) = (alk V false i j && alS V false i j) := rfl
    rw [hinv, Bool.true_and, alS] at e1
    refine am_q_iload_n rfl rfl ?_
    refine am_q_aload_n rfl rfl ?_
    refine am_q_gr rfl rfl rfl ?_
    refine am_q_gi rfl rfl rfl hV.1.1 ?_
    refine am_q_igeN rfl (by omega) (by omega) (fun c_10 => absurd c_10 (by omega)) (fun c_10 => ?_)
    refine am_q_iload_n rfl rfl ?_
    refine am_q_iconst (v := nI 1) rfl rfl ?_
    refine am_q_iload_n rfl rfl ?_
    refine am_q_ishl rfl (sn_shl1 (by omega)) ?_
    refine am_q_iconst (v := -1) rfl rfl ?_
    refine am_q_ixor rfl rfl ?_
    refine am_q_iand rfl (show nI i &&& (nI (2 ^ j) ^^^ -1) = nI (oth i j) from sn_andn _ hp2) ?_
    refine am_q_istore [some _, some _, some _, some _, some _, _] rfl (Nat.le_of_ble_eq_true rfl) rfl ?_
    refine am_q_iload_n rfl rfl ?_
    refine am_q_if_eqB rfl (fun c_23 => ?_) (fun c_23 => by simp at c_23)
    refine am_q_iconst (v := nI 0) rfl rfl ?_
    refine am_q_istore [some _, some _, some _, some _, some _, some _] rfl (Nat.le_of_ble_eq_true rfl) rfl ?_
    refine am_q_iload_n rfl rfl ?_
    refine am_q_iload_n rfl rfl ?_
    refine am_q_call rfl rfl (s_hasN _ _ _ (by omega) (by omega) _) rfl ?_
    refine am_q_if_eqB rfl (fun c_39 => ?_) (fun c_39 => ?_)
    · rw [c_39] at e1
      have e2 : alk V false i (j + 1) = true := e1
      refine am_q_iinc [some _, some _, some _, some _, some _, some _] rfl (c := nI 1) rfl rfl (Nat.le_of_ble_eq_true rfl) (nI_add _ _) rfl ?_
      refine am_q_goto rfl ?_
      exact ih (j + 1) _ _ (by omega) e2
    · rw [c_39] at e1
      refine am_q_aload_n rfl rfl ?_
      refine am_q_gr rfl rfl rfl ?_
      refine am_q_gr rfl rfl rfl ?_
      refine am_q_iload_n rfl rfl ?_
      refine am_q_iald rfl rfl (by first | exact am_ix_nI (by omega) (by omega) | rfl) (hV.2.2.2.1 _ (by omega)).2.2.2.2 ?_
      refine am_q_iload rfl rfl ?_
      refine am_q_iand rfl (sn_and _ _) ?_
      refine am_q_iload rfl rfl ?_
      refine am_q_ieqN rfl (by omega) (by omega) (fun c_56 => ?_) (fun c_56 => ?_)
      · have e2 : alk V false i (j + 1) = true := by rw [e1, decide_eq_true (show vFo V j &&& oth i j = if false = true then oth i j else 0 by simpa using c_56)]; rfl
        refine am_q_iinc [some _, some _, some _, some _, some _, some _] rfl (c := nI 1) rfl rfl (Nat.le_of_ble_eq_true rfl) (nI_add _ _) rfl ?_
        refine am_q_goto rfl ?_
        exact ih (j + 1) _ _ (by omega) e2
      · have e2 : alk V false i (j + 1) = false := by rw [e1, decide_eq_false (show ¬ (vFo V j &&& oth i j = if false = true then oth i j else 0) by simpa using c_56)]; rfl
        refine am_q_iconst (v := nI 0) rfl rfl ?_
        refine am_q_ireturn rfl rfl rfl ?_
        have e3 := alk_no e2 m
        rw [show j + 1 + m = vN V by omega] at e3
        rw [e3]; rfl

theorem s_alk_false (d : Nat) (i : Nat) (hi : i < 64) (n : Nat) {V : sVal} {μ : am_M2} (ν : am_N2) (hV : xVal μ V) (hO : vOk V) : am_run (d + 2) 144 [.ref 130, .int (nI i), .int (sB (false))] (am_hp n μ ν) = some (some (.int (sB (alk V false i (vN V)))), am_hp n μ ν) := by
  refine am_r144 (d := d + 1) (Nat.le_of_ble_eq_true rfl) [some (.ref 130), some (.int (nI i)), some (.int (sB (false))), none, none, none] rfl ?_
  refine am_q_iconst (v := nI 0) rfl rfl ?_
  refine am_q_istore_n [some _, some _, some _, some _, none, none] rfl (Nat.le_of_ble_eq_true rfl) rfl ?_
  exact s_alike_false d i hi n ν hV hO (vN V) 0 none none (by omega) rfl

theorem s_alk (d : Nat) (h : Bool) (i : Nat) (hi : i < 64) (n : Nat) {V : sVal} {μ : am_M2} (ν : am_N2) (hV : xVal μ V) (hO : vOk V) : am_run (d + 2) 144 [.ref 130, .int (nI i), .int (sB h)] (am_hp n μ ν) = some (some (.int (sB (alk V h i (vN V)))), am_hp n μ ν) := by
  cases h with
  | true => exact s_alk_true d i hi n ν hV hO
  | false => exact s_alk_false d i hi n ν hV hO
theorem s_largeL (d b : Nat) (h : Bool) (hb : b < 64) (n : Nat) {V : sVal} {μ : am_M2} (ν : am_N2) (hV : xVal μ V) (hO : vOk V) : ∀ (m j : Nat) (o5 : Option Value), j + m = 64 → am_w (d + 2) (Option.some FieldType.int) am_g143 5 [some (.ref 130), some (.int (nI b)), some (.int (sB (h))), some (.int (nI (laS V b h j))), some (.int (nI j)), o5] [] (am_hp n μ ν) (fun y => y = (some (.int (nI (laS V b h 64))), am_hp n μ ν)) := by
  intro m
  induction m with
  | zero =>
    intro j o5 hj
    refine am_q_iload rfl rfl ?_
    refine am_q_bipush (v := nI 64) rfl rfl ?_
    refine am_q_igeN rfl (by omega) (by omega) (fun c_9 => ?_) (fun c_9 => absurd c_9 (by omega))
    refine am_q_iload_n rfl rfl ?_
    refine am_q_ireturn rfl rfl rfl ?_
    rw [show j = 64 by omega]
  | succ m ih =>
    intro j o5 hj
    have hl := laS_le V b h j
    have b1 := sn_bc_le j (by omega)
    have b2 := sn_bc_le (laS V b h j) (by omega)
    refine am_q_iload rfl rfl ?_
    refine am_q_bipush (v := nI 64) rfl rfl ?_
    refine am_q_igeN rfl (by omega) (by omega) (fun c_9 => absurd c_9 (by omega)) (fun c_9 => ?_)
    refine am_q_iload rfl rfl ?_
    refine am_q_call rfl rfl (s_bitCount _ _ (by omega) _) rfl ?_
    refine am_q_iload_n rfl rfl ?_
    refine am_q_call rfl rfl (s_bitCount _ _ (by omega) _) rfl ?_
    refine am_q_ileN rfl (by omega) (by omega) (fun c_21 => ?_) (fun c_21 => ?_)
    · have hn : ¬ (sn_bc (laS V b h j) < sn_bc j ∧ j &&& b = j ∧ alk V h j (vN V) = true) := fun z => by omega
      refine am_q_iconst (v := nI 0) rfl rfl ?_
      refine am_q_istore [some _, some _, some _, some _, some _, some _] rfl (Nat.le_of_ble_eq_true rfl) rfl ?_
      refine am_q_iload rfl rfl ?_
      refine am_q_zeqN rfl (by omega) (fun c_33 => ?_) (fun c_33 => absurd c_33 (by omega))
      refine am_q_iinc [some _, some _, some _, some _, some _, some _] rfl (c := nI 1) rfl rfl (Nat.le_of_ble_eq_true rfl) (nI_add _ _) rfl ?_
      refine am_q_goto rfl ?_
      first | (have e := fun o => ih (j + 1) o (by omega); simp only [laS_y hy] at e; exact e _) | (have e := fun o => ih (j + 1) o (by omega); simp only [laS_n hn] at e; exact e _)
    · refine am_q_iconst (v := nI 1) rfl rfl ?_
      refine am_q_goto rfl ?_
      refine am_q_istore [some _, some _, some _, some _, some _, some _] rfl (Nat.le_of_ble_eq_true rfl) rfl ?_
      refine am_q_iload rfl rfl ?_
      refine am_q_zeqN rfl (by omega) (fun c_33 => absurd c_33 (by omega)) (fun c_33 => ?_)
      refine am_q_iload rfl rfl ?_
      refine am_q_iload_n rfl rfl ?_
      refine am_q_call rfl rfl (s_isWithin _ j b (by omega) hb _) rfl ?_
      refine am_q_if_eqB rfl (fun c_42 => ?_) (fun c_42 => ?_)
      · have hn : ¬ (sn_bc (laS V b h j) < sn_bc j ∧ j &&& b = j ∧ alk V h j (vN V) = true) := fun z => (of_decide_eq_false c_42) z.2.1
        refine am_q_iinc [some _, some _, some _, some _, some _, some _] rfl (c := nI 1) rfl rfl (Nat.le_of_ble_eq_true rfl) (nI_add _ _) rfl ?_
        refine am_q_goto rfl ?_
        first | (have e := fun o => ih (j + 1) o (by omega); simp only [laS_y hy] at e; exact e _) | (have e := fun o => ih (j + 1) o (by omega); simp only [laS_n hn] at e; exact e _)
      · have c_42 := of_decide_eq_true c_42
        refine am_q_aload_n rfl rfl ?_
        refine am_q_iload rfl rfl ?_
        refine am_q_iload_n rfl rfl ?_
        refine am_q_call rfl rfl (s_alk _ h j (by omega) n ν hV hO) rfl ?_
        refine am_q_if_eqB rfl (fun c_52 => ?_) (fun c_52 => ?_)
        · have hn : ¬ (sn_bc (laS V b h j) < sn_bc j ∧ j &&& b = j ∧ alk V h j (vN V) = true) := fun z => by rw [z.2.2] at c_52; cases c_52
          refine am_q_iinc [some _, some _, some _, some _, some _, some _] rfl (c := nI 1) rfl rfl (Nat.le_of_ble_eq_true rfl) (nI_add _ _) rfl ?_
          refine am_q_goto rfl ?_
          first | (have e := fun o => ih (j + 1) o (by omega); simp only [laS_y hy] at e; exact e _) | (have e := fun o => ih (j + 1) o (by omega); simp only [laS_n hn] at e; exact e _)
        · have hy : sn_bc (laS V b h j) < sn_bc j ∧ j &&& b = j ∧ alk V h j (vN V) = true := ⟨c_21, c_42, c_52⟩
          refine am_q_iload rfl rfl ?_
          refine am_q_istore_n [some _, some _, some _, some _, some _, some _] rfl (Nat.le_of_ble_eq_true rfl) rfl ?_
          refine am_q_iinc [some _, some _, some _, some _, some _, some _] rfl (c := nI 1) rfl rfl (Nat.le_of_ble_eq_true rfl) (nI_add _ _) rfl ?_
          refine am_q_goto rfl ?_
          first | (have e := fun o => ih (j + 1) o (by omega); simp only [laS_y hy] at e; exact e _) | (have e := fun o => ih (j + 1) o (by omega); simp only [laS_n hn] at e; exact e _)

/-- StoneSecrets$Feuds.largest(IZ)I -/
theorem s_large (d : Nat) (b : Nat) (h : Bool) (hb : b < 64) (n : Nat) {V : sVal} {μ : am_M2} (ν : am_N2) (hV : xVal μ V) (hO : vOk V) : am_run (d + 3) 143 [.ref 130, .int (nI b), .int (sB (h))] (am_hp n μ ν) = some (some (.int (nI (laS V b h 64))), am_hp n μ ν) := by
  refine am_r143 (d := d + 2) (Nat.le_of_ble_eq_true rfl) [some (.ref 130), some (.int (nI b)), some (.int (sB (h))), none, none, none] rfl ?_
  refine am_q_iconst (v := nI 0) rfl rfl ?_
  refine am_q_istore_n [some _, some _, some _, some _, none, none] rfl (Nat.le_of_ble_eq_true rfl) rfl ?_
  refine am_q_iconst (v := nI 1) rfl rfl ?_
  refine am_q_istore [some _, some _, some _, some _, some _, none] rfl (Nat.le_of_ble_eq_true rfl) rfl ?_
  exact s_largeL d b h hb n ν hV hO 63 1 none (by omega)

/-- StoneSecrets.feud()I -/
theorem x_feud (d : Nat) (n : Nat) {V : sVal} {W : sWall} {μ : am_M2} (ν : am_N2) (hV : xVal μ V) (hO : vOk V) (hW : xWall μ 35 W) (hI : sI (vN V) (vP V) W.1 W.2.1) (ht : W.2.2 < 2 ^ 20) : am_run (d + 4) 142 [.ref 2] (am_hp n μ ν) = some (some (.int (nI (laS V (sNo V W) true 64))), am_hp n μ ν) := by
  have h6 := hO.1.1
  have hP8 := hO.1.2.1
  have h8 := sI_8 hO hI
  refine am_r142 (d := d + 3) (Nat.le_of_ble_eq_true rfl) [some (.ref 2)] rfl ?_
  refine am_q_aload_n rfl rfl ?_
  refine am_q_gr rfl rfl rfl ?_
  refine am_q_aload_n rfl rfl ?_
  refine am_q_gr rfl rfl rfl ?_
  refine am_q_call rfl rfl (s_notOut _ n ν hV hO hW hI ht) rfl ?_
  refine am_q_iconst (v := nI 1) rfl rfl ?_
  refine am_q_call rfl rfl (s_large _ (sNo V W) true (sn_64 h6) n ν hV hO) rfl ?_
  refine am_q_ireturn rfl rfl rfl ?_
  rfl

/-- StoneSecrets.calm()I -/
theorem x_calm (d : Nat) (n : Nat) {V : sVal} {W : sWall} {μ : am_M2} (ν : am_N2) (hV : xVal μ V) (hO : vOk V) (hW : xWall μ 35 W) (hI : sI (vN V) (vP V) W.1 W.2.1) (ht : W.2.2 < 2 ^ 20) : am_run (d + 4) 145 [.ref 2] (am_hp n μ ν) = some (some (.int (nI (laS V (sNo V W) false 64))), am_hp n μ ν) := by
  have h6 := hO.1.1
  have hP8 := hO.1.2.1
  have h8 := sI_8 hO hI
  refine am_r145 (d := d + 3) (Nat.le_of_ble_eq_true rfl) [some (.ref 2)] rfl ?_
  refine am_q_aload_n rfl rfl ?_
  refine am_q_gr rfl rfl rfl ?_
  refine am_q_aload_n rfl rfl ?_
  refine am_q_gr rfl rfl rfl ?_
  refine am_q_call rfl rfl (s_notOut _ n ν hV hO hW hI ht) rfl ?_
  refine am_q_iconst (v := nI 0) rfl rfl ?_
  refine am_q_call rfl rfl (s_large _ (sNo V W) false (sn_64 h6) n ν hV hO) rfl ?_
  refine am_q_ireturn rfl rfl rfl ?_
  rfl
