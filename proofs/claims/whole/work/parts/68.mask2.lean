def smN (f : Nat → Nat) : Nat → Nat := lpF (fun k x => x + f k) 0
theorem smN_s (f : Nat → Nat) (n : Nat) : smN f (n + 1) = smN f n + f n := rfl
theorem smN_cong {f g : Nat → Nat} : ∀ n, (∀ k, k < n → f k = g k) → smN f n = smN g n
  | 0, _ => rfl
  | n + 1, h => by rw [smN_s, smN_s, smN_cong n (fun k hk => h k (by omega)), h n (by omega)]
theorem smN_add (f g : Nat → Nat) : ∀ n, smN (fun k => f k + g k) n = smN f n + smN g n
  | 0 => rfl
  | n + 1 => by rw [smN_s, smN_s, smN_s, smN_add f g n]; omega
theorem smN_0 : ∀ n, smN (fun _ => 0) n = 0
  | 0 => rfl
  | n + 1 => by rw [smN_s, smN_0 n]
theorem smN_swap (a : Nat → Nat → Nat) (P : Nat) : ∀ N, smN (fun k => smN (fun s => a s k) N) P = smN (fun s => smN (fun k => a s k) P) N
  | 0 => smN_0 P
  | N + 1 => by
    rw [smN_s, ← smN_swap a P N, ← smN_add]
    exact smN_cong P (fun k _ => rfl)
theorem smN_one {w p : Nat} : ∀ P, smN (fun k => if some p = some k then w else 0) P = if p < P then w else 0
  | 0 => rfl
  | P + 1 => by
    rw [smN_s, smN_one P]
    by_cases h : p = P
    · subst h; rw [if_neg (by omega), if_pos rfl, if_pos (by omega)]; omega
    · rw [if_neg (show ¬ some p = some P from fun e => h (Option.some.inj e))]
      by_cases z : p < P
      · rw [if_pos z, if_pos (by omega)]; rfl
      · rw [if_neg z, if_neg (by omega)]
theorem wAt_sum {V : sVal} {pl : Nat → Option Nat} (h6 : vN V ≤ 6) (hp : pOk V pl) (p : Nat) : ∀ n, n ≤ vN V → wAt V pl p n = smN (fun s => if pl s = some p then vW V s else 0) n
  | 0, _ => rfl
  | n + 1, hn => by
    have e1 : wAt V pl p (n + 1) = if pl n = some p then vW V n else wAt V pl p n := rfl
    rw [e1, smN_s]
    by_cases h : pl n = some p
    · rw [if_pos h, if_pos h]
      have : smN (fun s => if pl s = some p then vW V s else 0) n = smN (fun _ => 0) n := smN_cong n (fun k hk => if_neg (fun e => absurd (e.trans h.symm) (((hp k (by omega)).2.2 n (by omega) (by omega)) (by rw [e]; exact fun z => by cases z))))
      rw [this, smN_0]; omega
    · rw [if_neg h, if_neg h]; exact wAt_sum h6 hp p n (by omega)
theorem load_m {V : sVal} {W : sWall} (h6 : vN V ≤ 6) (hI : sI (vN V) (vP V) W.1 W.2.1) : smN (fun k => wAt V W.2.1 k (vN V)) (vP V) = sLoad V W (vN V) := by
  have e1 : smN (fun k => wAt V W.2.1 k (vN V)) (vP V) = smN (fun k => smN (fun s => if W.2.1 s = some k then vW V s else 0) (vN V)) (vP V) := smN_cong _ (fun k _ => wAt_sum h6 (sI_p hI) k _ (Nat.le_refl _))
  rw [e1, smN_swap]
  have e2 : ∀ n, n ≤ vN V → smN (fun s => smN (fun k => if W.2.1 s = some k then vW V s else 0) (vP V)) n = sLoad V W n := by
    intro n
    induction n with
    | zero => intro _; rfl
    | succ n ih =>
      intro hn
      have e3 : sLoad V W (n + 1) = if W.1 n = 2 then sLoad V W n + vW V n else sLoad V W n := rfl
      rw [smN_s, ih (by omega), e3]
      have k1 := hI n (by omega)
      cases hq : W.2.1 n with
      | none =>
        rw [if_neg (fun z => by have := k1.2.1.mpr z; rw [hq] at this; cases this)]
        rw [smN_cong (vP V) (g := fun _ => 0) (fun k _ => if_neg (fun e => by cases e)), smN_0]; rfl
      | some p =>
        rw [if_pos (k1.2.1.mp (by rw [hq]; rfl)), smN_one, if_pos (k1.2.2.1 p hq)]
  exact e2 _ (Nat.le_refl _)
theorem smN_le {f : Nat → Nat} {B : Nat} (h : ∀ k, f k ≤ B) : ∀ n, smN f n ≤ B * n
  | 0 => Nat.zero_le _
  | n + 1 => by have := smN_le h n; have := h n; rw [smN_s, Nat.mul_succ]; omega
theorem m_loadL (d : Nat) (n : Nat) {V : sVal} {W : sWall} {μ : am_M2} (ν : am_N2) (hV : mVal μ V) (hO : vOk V) (hW : mWall μ 0 W) (hI : sI (vN V) (vP V) W.1 W.2.1) (ht : W.2.2 < 2 ^ 20) : ∀ (m j : Nat) , j + m = vP V → am_w (d + 3) (Option.some FieldType.int) am_g287 9 [some (.ref 133), some (.int (nI (smN (fun k => wAt V W.2.1 k (vN V)) j))), some (.int (nI j))] [] (am_hp n (am_up μ 133 0 (nI 0)) ν) (fun y => y = (some (.int (nI (sLoad V W (vN V)))), am_hp n (am_up μ 133 0 (nI 0)) ν)) := by
  intro m
  induction m with
  | zero =>
    intro j  hj
    have h6 := hO.1.1
    have hP8 := hO.1.2.1
    have h8 := sI_8 hO hI
    have hpk := sI_p hI
    have hV0 := mVal_fr (fr_thr μ) hV
    have hW0 := mWall_fr (fr_thr μ) (by decide) hW
    refine am_q_iload_n rfl rfl ?_
    refine am_q_aload_n rfl rfl ?_
    refine am_q_call rfl rfl (m_places _ _ _ hV0) rfl ?_
    refine am_q_igeN rfl (by omega) (by omega) (fun c_14 => ?_) (fun c_14 => absurd c_14 (by omega))
    refine am_q_iload_n rfl rfl ?_
    refine am_q_ireturn rfl rfl rfl ?_
    rw [show j = vP V by omega, load_m h6 hI]
  | succ m ih =>
    intro j  hj
    have h6 := hO.1.1
    have hP8 := hO.1.2.1
    have h8 := sI_8 hO hI
    have hpk := sI_p hI
    have hV0 := mVal_fr (fr_thr μ) hV
    have hW0 := mWall_fr (fr_thr μ) (by decide) hW
    refine am_q_iload_n rfl rfl ?_
    refine am_q_aload_n rfl rfl ?_
    refine am_q_call rfl rfl (m_places _ _ _ hV0) rfl ?_
    refine am_q_igeN rfl (by omega) (by omega) (fun c_14 => absurd c_14 (by omega)) (fun c_14 => ?_)
    refine am_q_iload_n rfl rfl ?_
    refine am_q_aload_n rfl rfl ?_
    refine am_q_iload_n rfl rfl ?_
    refine am_q_call rfl rfl (m_weightAt _ n ν hV0 hO hW0 hI _ (by omega)) rfl ?_
    refine am_q_iadd rfl (nI_add _ _) ?_
    refine am_q_istore_n [some _, some _, some _] rfl (Nat.le_of_ble_eq_true rfl) rfl ?_
    refine am_q_iinc [some _, some _, some _] rfl (c := nI 1) rfl rfl (Nat.le_of_ble_eq_true rfl) (nI_add _ _) rfl ?_
    refine am_q_goto rfl ?_
    exact ih (j + 1) (by omega)

/-- StoneSecretsModel.load()I -/
theorem m_load (d : Nat) (n : Nat) {V : sVal} {W : sWall} {μ : am_M2} (ν : am_N2) (hV : mVal μ V) (hO : vOk V) (hW : mWall μ 0 W) (hI : sI (vN V) (vP V) W.1 W.2.1) (ht : W.2.2 < 2 ^ 20) : am_run (d + 4) 287 [.ref 133] (am_hp n μ ν) = some (some (.int (nI (sLoad V W (vN V)))), am_hp n (am_up μ 133 0 (nI 0)) ν) := by
  refine am_r287 (d := d + 3) (Nat.le_of_ble_eq_true rfl) [some (.ref 133), none, none] rfl ?_
  refine am_q_aload_n rfl rfl ?_
  refine am_q_iconst (v := nI 0) rfl rfl ?_
  refine am_q_pi rfl rfl rfl (Or.inl rfl) ?_
  refine am_q_iconst (v := nI 0) rfl rfl ?_
  refine am_q_istore_n [some _, some _, none] rfl (Nat.le_of_ble_eq_true rfl) rfl ?_
  refine am_q_iconst (v := nI 0) rfl rfl ?_
  refine am_q_istore_n [some _, some _, some _] rfl (Nat.le_of_ble_eq_true rfl) rfl ?_
  exact m_loadL d n ν hV hO hW hI ht (vP V) 0 (by omega)

theorem free_n {V : sVal} {pl : Nat → Option Nat} {p : Nat} (h6 : vN V ≤ 6) (hp : pOk V pl) (h : ¬ 0 ≤ sn_place (sAt pl p (vN V))) : sFree pl p = true := by
  have hn := sn_place_nge (fun z hz => by have := sAt_lt hz; omega) h
  unfold sFree; rw [← sAt_some h6 hp p, hn]; rfl
theorem free_y {V : sVal} {pl : Nat → Option Nat} {p : Nat} (h6 : vN V ≤ 6) (hp : pOk V pl) (h : 0 ≤ sn_place (sAt pl p (vN V))) : sFree pl p = false := by
  obtain ⟨i, hi⟩ := sn_place_ge (fun z hz => by have := sAt_lt hz; omega) h
  unfold sFree; rw [← sAt_some h6 hp p, hi]; rfl
theorem sGaps_s (pl : Nat → Option Nat) (k : Nat) : sGaps pl (k + 1) = if sFree pl k = true ∧ (k = 0 ∨ sFree pl (k - 1) = false) then sGaps pl k + 1 else sGaps pl k := rfl
theorem i_nlt {x : Int32} (h : x < 0) : ¬ 0 ≤ x := Int32.not_le.mpr h
theorem m_gapsL (d : Nat) (n : Nat) {V : sVal} {W : sWall} {μ : am_M2} (ν : am_N2) (hV : mVal μ V) (hO : vOk V) (hW : mWall μ 0 W) (hI : sI (vN V) (vP V) W.1 W.2.1) (ht : W.2.2 < 2 ^ 20) : ∀ (m j : Nat) , j + m = vP V → am_w (d + 2) (Option.some FieldType.int) am_g288 9 [some (.ref 133), some (.int (nI (sGaps W.2.1 j))), some (.int (nI j))] [] (am_hp n (am_up μ 133 0 (nI 0)) ν) (fun y => y = (some (.int (nI (sGaps W.2.1 (vP V)))), am_hp n (am_up μ 133 0 (nI 0)) ν)) := by
  intro m
  induction m with
  | zero =>
    intro j  hj
    have h6 := hO.1.1
    have hP8 := hO.1.2.1
    have h8 := sI_8 hO hI
    have hpk := sI_p hI
    have hV0 := mVal_fr (fr_thr μ) hV
    have hW0 := mWall_fr (fr_thr μ) (by decide) hW
    refine am_q_iload_n rfl rfl ?_
    refine am_q_aload_n rfl rfl ?_
    refine am_q_call rfl rfl (m_places _ _ _ hV0) rfl ?_
    refine am_q_igeN rfl (by omega) (by omega) (fun c_14 => ?_) (fun c_14 => absurd c_14 (by omega))
    refine am_q_iload_n rfl rfl ?_
    refine am_q_ireturn rfl rfl rfl ?_
    rw [show j = vP V by omega]
  | succ m ih =>
    intro j  hj
    have h6 := hO.1.1
    have hP8 := hO.1.2.1
    have h8 := sI_8 hO hI
    have hpk := sI_p hI
    have hV0 := mVal_fr (fr_thr μ) hV
    have hW0 := mWall_fr (fr_thr μ) (by decide) hW
    have e := ih (j + 1) (by omega)
    rw [sGaps_s] at e
    refine am_q_iload_n rfl rfl ?_
    refine am_q_aload_n rfl rfl ?_
    refine am_q_call rfl rfl (m_places _ _ _ hV0) rfl ?_
    refine am_q_igeN rfl (by omega) (by omega) (fun c_14 => absurd c_14 (by omega)) (fun c_14 => ?_)
    refine am_q_iload_n rfl rfl ?_
    refine am_q_aload_n rfl rfl ?_
    refine am_q_iconst (v := nI 0) rfl rfl ?_
    refine am_q_iload_n rfl rfl ?_
    refine am_q_call rfl rfl (m_whoAt _ n ν hV0 hO 0 (by decide) hW0 hI _ (by omega)) rfl ?_
    refine am_q_if_ge rfl (fun c_24 => ?_) (fun c_24 => ?_)
    · have f0 := free_y h6 hpk c_24
      rw [if_neg (fun z => by rw [f0] at z; exact absurd z.1 (by decide))] at e
      refine am_q_iconst (v := nI 0) rfl rfl ?_
      refine am_q_iadd rfl (nI_add _ _) ?_
      refine am_q_istore_n [some _, some _, some _] rfl (Nat.le_of_ble_eq_true rfl) rfl ?_
      refine am_q_iinc [some _, some _, some _] rfl (c := nI 1) rfl rfl (Nat.le_of_ble_eq_true rfl) (nI_add _ _) rfl ?_
      refine am_q_goto rfl ?_
      exact e
    · have f0 := free_n h6 hpk c_24
      refine am_q_iload_n rfl rfl ?_
      refine am_q_zeqN rfl (by omega) (fun c_28 => ?_) (fun c_28 => ?_)
      · rw [if_pos ⟨f0, Or.inl c_28⟩] at e
        refine am_q_iconst (v := nI 1) rfl rfl ?_
        refine am_q_goto rfl ?_
        refine am_q_iadd rfl (nI_add _ _) ?_
        refine am_q_istore_n [some _, some _, some _] rfl (Nat.le_of_ble_eq_true rfl) rfl ?_
        refine am_q_iinc [some _, some _, some _] rfl (c := nI 1) rfl rfl (Nat.le_of_ble_eq_true rfl) (nI_add _ _) rfl ?_
        refine am_q_goto rfl ?_
        exact e
      · refine am_q_aload_n rfl rfl ?_
        refine am_q_iconst (v := nI 0) rfl rfl ?_
        refine am_q_iload_n rfl rfl ?_
        refine am_q_iconst (v := nI 1) rfl rfl ?_
        refine am_q_isub rfl (show nI j - nI 1 = nI (j - 1) from pk_sub (by omega)) ?_
        refine am_q_call rfl rfl (m_whoAt _ n ν hV0 hO 0 (by decide) hW0 hI _ (by omega)) rfl ?_
        refine am_q_if_lt rfl (fun c_39 => ?_) (fun c_39 => ?_)
        · have f1 := free_n h6 hpk (i_nlt c_39)
          rw [if_neg (fun z => by rw [f1] at z; rcases z.2 with z | z; exact c_28 z; exact absurd z (by decide))] at e
          refine am_q_iconst (v := nI 0) rfl rfl ?_
          refine am_q_iadd rfl (nI_add _ _) ?_
          refine am_q_istore_n [some _, some _, some _] rfl (Nat.le_of_ble_eq_true rfl) rfl ?_
          refine am_q_iinc [some _, some _, some _] rfl (c := nI 1) rfl rfl (Nat.le_of_ble_eq_true rfl) (nI_add _ _) rfl ?_
          refine am_q_goto rfl ?_
          exact e
        · have f1 := free_y h6 hpk (fa_of_nlt c_39)
          rw [if_pos ⟨f0, Or.inr f1⟩] at e
          refine am_q_iconst (v := nI 1) rfl rfl ?_
          refine am_q_goto rfl ?_
          refine am_q_iadd rfl (nI_add _ _) ?_
          refine am_q_istore_n [some _, some _, some _] rfl (Nat.le_of_ble_eq_true rfl) rfl ?_
          refine am_q_iinc [some _, some _, some _] rfl (c := nI 1) rfl rfl (Nat.le_of_ble_eq_true rfl) (nI_add _ _) rfl ?_
          refine am_q_goto rfl ?_
          exact e

/-- StoneSecretsModel.gaps()I -/
theorem m_gaps (d : Nat) (n : Nat) {V : sVal} {W : sWall} {μ : am_M2} (ν : am_N2) (hV : mVal μ V) (hO : vOk V) (hW : mWall μ 0 W) (hI : sI (vN V) (vP V) W.1 W.2.1) (ht : W.2.2 < 2 ^ 20) : am_run (d + 3) 288 [.ref 133] (am_hp n μ ν) = some (some (.int (nI (sGaps W.2.1 (vP V)))), am_hp n (am_up μ 133 0 (nI 0)) ν) := by
  refine am_r288 (d := d + 2) (Nat.le_of_ble_eq_true rfl) [some (.ref 133), none, none] rfl ?_
  refine am_q_aload_n rfl rfl ?_
  refine am_q_iconst (v := nI 0) rfl rfl ?_
  refine am_q_pi rfl rfl rfl (Or.inl rfl) ?_
  refine am_q_iconst (v := nI 0) rfl rfl ?_
  refine am_q_istore_n [some _, some _, none] rfl (Nat.le_of_ble_eq_true rfl) rfl ?_
  refine am_q_iconst (v := nI 0) rfl rfl ?_
  refine am_q_istore_n [some _, some _, some _] rfl (Nat.le_of_ble_eq_true rfl) rfl ?_
  exact m_gapsL d n ν hV hO hW hI ht (vP V) 0 (by omega)

theorem m_wideL (d : Nat) (n : Nat) {V : sVal} {W : sWall} {μ : am_M2} (ν : am_N2) (hV : mVal μ V) (hO : vOk V) (hW : mWall μ 0 W) (hI : sI (vN V) (vP V) W.1 W.2.1) (ht : W.2.2 < 2 ^ 20) : ∀ (m j : Nat) , j + m = vP V → am_w (d + 2) (Option.some FieldType.int) am_g289 11 [some (.ref 133), some (.int (nI ((sWide W.2.1 j).1))), some (.int (nI ((sWide W.2.1 j).2))), some (.int (nI j))] [] (am_hp n (am_up μ 133 0 (nI 0)) ν) (fun y => y = (some (.int (nI (sWide W.2.1 (vP V)).1)), am_hp n (am_up μ 133 0 (nI 0)) ν)) := by
  intro m
  induction m with
  | zero =>
    intro j  hj
    have h6 := hO.1.1
    have hP8 := hO.1.2.1
    have h8 := sI_8 hO hI
    have hpk := sI_p hI
    have hV0 := mVal_fr (fr_thr μ) hV
    have hW0 := mWall_fr (fr_thr μ) (by decide) hW
    have hwl := sWide_le W.2.1 j
    refine am_q_iload_n rfl rfl ?_
    refine am_q_aload_n rfl rfl ?_
    refine am_q_call rfl rfl (m_places _ _ _ hV0) rfl ?_
    refine am_q_igeN rfl (by omega) (by omega) (fun c_16 => ?_) (fun c_16 => absurd c_16 (by omega))
    refine am_q_iload_n rfl rfl ?_
    refine am_q_ireturn rfl rfl rfl ?_
    rw [show j = vP V by omega]
  | succ m ih =>
    intro j  hj
    have h6 := hO.1.1
    have hP8 := hO.1.2.1
    have h8 := sI_8 hO hI
    have hpk := sI_p hI
    have hV0 := mVal_fr (fr_thr μ) hV
    have hW0 := mWall_fr (fr_thr μ) (by decide) hW
    have hwl := sWide_le W.2.1 j
    have e := ih (j + 1) (by omega)
    refine am_q_iload_n rfl rfl ?_
    refine am_q_aload_n rfl rfl ?_
    refine am_q_call rfl rfl (m_places _ _ _ hV0) rfl ?_
    refine am_q_igeN rfl (by omega) (by omega) (fun c_16 => absurd c_16 (by omega)) (fun c_16 => ?_)
    refine am_q_aload_n rfl rfl ?_
    refine am_q_iconst (v := nI 0) rfl rfl ?_
    refine am_q_iload_n rfl rfl ?_
    refine am_q_call rfl rfl (m_whoAt _ n ν hV0 hO 0 (by decide) hW0 hI _ (by omega)) rfl ?_
    refine am_q_if_ge rfl (fun c_25 => ?_) (fun c_25 => ?_)
    · have f0 := free_y h6 hpk c_25
      rw [sWide_n f0] at e
      refine am_q_iconst (v := nI 0) rfl rfl ?_
      refine am_q_istore_n [some _, some _, some _, some _] rfl (Nat.le_of_ble_eq_true rfl) rfl ?_
      refine am_q_iload_n rfl rfl ?_
      refine am_q_iload_n rfl rfl ?_
      refine am_q_ileN rfl (by omega) (by omega) (fun c_38 => ?_) (fun c_38 => absurd c_38 (by omega))
      refine am_q_iload_n rfl rfl ?_
      refine am_q_istore_n [some _, some _, some _, some _] rfl (Nat.le_of_ble_eq_true rfl) rfl ?_
      refine am_q_iinc [some _, some _, some _, some _] rfl (c := nI 1) rfl rfl (Nat.le_of_ble_eq_true rfl) (nI_add _ _) rfl ?_
      refine am_q_goto rfl ?_
      exact e
    · have f0 := free_n h6 hpk c_25
      rw [sWide_y f0] at e
      refine am_q_iload_n rfl rfl ?_
      refine am_q_iconst (v := nI 1) rfl rfl ?_
      refine am_q_iadd rfl (nI_add _ _) ?_
      refine am_q_goto rfl ?_
      refine am_q_istore_n [some _, some _, some _, some _] rfl (Nat.le_of_ble_eq_true rfl) rfl ?_
      refine am_q_iload_n rfl rfl ?_
      refine am_q_iload_n rfl rfl ?_
      refine am_q_ileN rfl (by omega) (by omega) (fun c_38 => ?_) (fun c_38 => ?_)
      · rw [if_neg (by omega)] at e
        refine am_q_iload_n rfl rfl ?_
        refine am_q_istore_n [some _, some _, some _, some _] rfl (Nat.le_of_ble_eq_true rfl) rfl ?_
        refine am_q_iinc [some _, some _, some _, some _] rfl (c := nI 1) rfl rfl (Nat.le_of_ble_eq_true rfl) (nI_add _ _) rfl ?_
        refine am_q_goto rfl ?_
        exact e
      · rw [if_pos c_38] at e
        refine am_q_iload_n rfl rfl ?_
        refine am_q_goto rfl ?_
        refine am_q_istore_n [some _, some _, some _, some _] rfl (Nat.le_of_ble_eq_true rfl) rfl ?_
        refine am_q_iinc [some _, some _, some _, some _] rfl (c := nI 1) rfl rfl (Nat.le_of_ble_eq_true rfl) (nI_add _ _) rfl ?_
        refine am_q_goto rfl ?_
        exact e

/-- StoneSecretsModel.widest()I -/
theorem m_widest (d : Nat) (n : Nat) {V : sVal} {W : sWall} {μ : am_M2} (ν : am_N2) (hV : mVal μ V) (hO : vOk V) (hW : mWall μ 0 W) (hI : sI (vN V) (vP V) W.1 W.2.1) (ht : W.2.2 < 2 ^ 20) : am_run (d + 3) 289 [.ref 133] (am_hp n μ ν) = some (some (.int (nI (sWide W.2.1 (vP V)).1)), am_hp n (am_up μ 133 0 (nI 0)) ν) := by
  refine am_r289 (d := d + 2) (Nat.le_of_ble_eq_true rfl) [some (.ref 133), none, none, none] rfl ?_
  refine am_q_aload_n rfl rfl ?_
  refine am_q_iconst (v := nI 0) rfl rfl ?_
  refine am_q_pi rfl rfl rfl (Or.inl rfl) ?_
  refine am_q_iconst (v := nI 0) rfl rfl ?_
  refine am_q_istore_n [some _, some _, none, none] rfl (Nat.le_of_ble_eq_true rfl) rfl ?_
  refine am_q_iconst (v := nI 0) rfl rfl ?_
  refine am_q_istore_n [some _, some _, some _, none] rfl (Nat.le_of_ble_eq_true rfl) rfl ?_
  refine am_q_iconst (v := nI 0) rfl rfl ?_
  refine am_q_istore_n [some _, some _, some _, some _] rfl (Nat.le_of_ble_eq_true rfl) rfl ?_
  exact m_wideL d n ν hV hO hW hI ht (vP V) 0 (by omega)
