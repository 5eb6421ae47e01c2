/-! ===== deeds ===== -/
/-- whether a deed can be: 0 a week, 1 TELL, 2 SET, 3 TAKE -/
def dMay (V : sVal) (W : sWall) (s p : Int32) : Bool := match am_ix s (vN V), am_ix p (vP V) with
  | some k, some q => (sOpen V W.2.1 k).testBit q
  | _, _ => false
def dCan (V : sVal) (W : sWall) (e : Nat) (s p : Int32) : Bool := match e with
  | 1 => sIs (vN V) W.1 s 0
  | 2 => (sIs (vN V) W.1 s 1 || sIs (vN V) W.1 s 3) && dMay V W s p
  | 3 => sIs (vN V) W.1 s 2
  | _ => true
def fup {α : Type} (f : Nat → α) (k : Nat) (v : α) : Nat → α := fun j => if j = k then v else f j
/-- what it does -/
def dDo (V : sVal) (W : sWall) (e : Nat) (s p : Int32) : sWall := match e with
  | 0 => (wkSt V W.1 W.2.1 W.2.2 (vCold V W.2.2), wkPl V W.2.1 W.2.2 (vCold V W.2.2), W.2.2 + 1)
  | 2 => (match am_ix s (vN V), am_ix p (vP V) with
    | some k, some q => (fup W.1 k 2, fup W.2.1 k (some q), W.2.2)
    | _, _ => W)
  | _ => (match am_ix s (vN V) with
    | some k => (fup W.1 k 1, fup W.2.1 k none, W.2.2)
    | none => W)
theorem dMay_no {V : sVal} {W : sWall} {s p : Int32} (h : (am_ix p (vP V)).isSome = false) : dMay V W s p = false := by
  unfold dMay
  cases hq : am_ix p (vP V) with
  | none => cases am_ix s (vN V) <;> rfl
  | some q => rw [hq] at h; cases h
theorem dMay_yes {V : sVal} {W : sWall} {s p : Int32} {k q : Nat} (hk : am_ix s (vN V) = some k) (hq : am_ix p (vP V) = some q) : dMay V W s p = (sOpen V W.2.1 k).testBit q := by
  unfold dMay; rw [hk, hq]
theorem dDo1 {V : sVal} {W : sWall} {s p : Int32} {e k : Nat} (hk : am_ix s (vN V) = some k) (he : e = 1 ∨ e = 3) : dDo V W e s p = (fup W.1 k 1, fup W.2.1 k none, W.2.2) := by
  rcases he with rfl | rfl <;> (unfold dDo; rw [hk]; rfl)
theorem dDo2 {V : sVal} {W : sWall} {s p : Int32} {k q : Nat} (hk : am_ix s (vN V) = some k) (hq : am_ix p (vP V) = some q) : dDo V W 2 s p = (fup W.1 k 2, fup W.2.1 k (some q), W.2.2) := by
  unfold dDo; rw [hk, hq]; rfl
theorem sIs_some {N x : Nat} {st : Nat → Nat} {s : Int32} (h : sIs N st s x = true) : ∃ k, am_ix s N = some k ∧ st k = x := by
  unfold sIs at h
  cases hk : am_ix s N with
  | none => rw [hk] at h; cases h
  | some k => rw [hk] at h; exact ⟨k, rfl, of_decide_eq_true h⟩
theorem wl_two (μ : am_M2) (w k : Nat) (x y : Int32) : am_up (am_up μ (w + 1) k x) (w + 2) k y = am_wl μ w (upd (μ (w + 1)) k x) (upd (μ (w + 2)) k y) (μ w 3) := by
  funext i j
  unfold am_wl am_up am_rw upd
  by_cases h1 : i = w + 2
  · subst h1; simp [show ¬ w + 2 = w by omega, show ¬ w + 2 = w + 1 by omega]
  · by_cases h2 : i = w + 1
    · subst h2; simp [show ¬ w + 1 = w by omega, h1]
    · by_cases h3 : i = w
      · subst h3
        by_cases h4 : j = 3
        · subst h4; simp [h1, h2]
        · simp [h1, h2, h4]
      · simp [h1, h2, h3]
theorem fup_nI {a : Nat → Int32} {st : Nat → Nat} {k v : Nat} {x : Int32} (h : ∀ s, s < 6 → a s = nI (st s)) (hx : x = nI v) : ∀ s, s < 6 → upd a k x s = nI (fup st k v s) := by
  intro s hs
  unfold fup
  by_cases z : s = k
  · subst z; rw [pk_us, if_pos rfl, hx]
  · rw [pk_un z, if_neg z, h s hs]
theorem fup_sp {a : Nat → Int32} {pl : Nat → Option Nat} {k : Nat} {v : Option Nat} {x : Int32} (h : ∀ s, s < 6 → a s = sn_spot (pl s)) (hx : x = sn_spot v) : ∀ s, s < 6 → upd a k x s = sn_spot (fup pl k v s) := by
  intro s hs
  unfold fup
  by_cases z : s = k
  · subst z; rw [pk_us, if_pos rfl, hx]
  · rw [pk_un z, if_neg z, h s hs]
theorem sOpen_lt {V : sVal} (hO : vOk V) (pl : Nat → Option Nat) (s : Nat) : sOpen V pl s < 256 := Nat.lt_of_lt_of_le (sBits_lt _ _) (Nat.pow_le_pow_right (by decide) hO.1.2.1)
theorem s_allows1_35 (d : Nat) (s p : Int32) (n : Nat) {V : sVal} {W : sWall} {μ : am_M2} (ν : am_N2) (hV : xVal μ V) (hO : vOk V) (hW : xWall μ 35 W) (hI : sI (vN V) (vP V) W.1 W.2.1) : am_run (d + 3) 72 [.ref 35, .int (nI 1), .int s, .int p] (am_hp n μ ν) = some (some (.int (sB (dCan V W 1 s p))), am_hp n μ ν) := by
  refine am_r72 (d := d + 2) (Nat.le_of_ble_eq_true rfl) [some (.ref 35), some (.int (nI 1)), some (.int s), some (.int p)] rfl ?_
  refine am_q_iload_n rfl rfl ?_
  refine am_q_tsw (t := 28) rfl (by decide) ?_
  refine am_q_aload_n rfl rfl ?_
  refine am_q_iload_n rfl rfl ?_
  refine am_q_iconst (v := nI 0) rfl rfl ?_
  refine am_q_call rfl rfl (s_is35 _ s 0 (by omega) n ν hV.1 hW hI) rfl ?_
  refine am_q_ireturn rfl rfl (sB_ok _) ?_
  rfl

theorem s_allows3_35 (d : Nat) (s p : Int32) (n : Nat) {V : sVal} {W : sWall} {μ : am_M2} (ν : am_N2) (hV : xVal μ V) (hO : vOk V) (hW : xWall μ 35 W) (hI : sI (vN V) (vP V) W.1 W.2.1) : am_run (d + 3) 72 [.ref 35, .int (nI 3), .int s, .int p] (am_hp n μ ν) = some (some (.int (sB (dCan V W 3 s p))), am_hp n μ ν) := by
  refine am_r72 (d := d + 2) (Nat.le_of_ble_eq_true rfl) [some (.ref 35), some (.int (nI 3)), some (.int s), some (.int p)] rfl ?_
  refine am_q_iload_n rfl rfl ?_
  refine am_q_tsw (t := 79) rfl (by decide) ?_
  refine am_q_aload_n rfl rfl ?_
  refine am_q_iload_n rfl rfl ?_
  refine am_q_iconst (v := nI 2) rfl rfl ?_
  refine am_q_call rfl rfl (s_is35 _ s 2 (by omega) n ν hV.1 hW hI) rfl ?_
  refine am_q_ireturn rfl rfl (sB_ok _) ?_
  rfl

theorem s_allows0_35 (d : Nat) (s p : Int32) (n : Nat) {V : sVal} {W : sWall} {μ : am_M2} (ν : am_N2) (hV : xVal μ V) (hO : vOk V) (hW : xWall μ 35 W) (hI : sI (vN V) (vP V) W.1 W.2.1) : am_run (d + 3) 72 [.ref 35, .int (nI 0), .int s, .int p] (am_hp n μ ν) = some (some (.int (sB (dCan V W 0 s p))), am_hp n μ ν) := by
  refine am_r72 (d := d + 2) (Nat.le_of_ble_eq_true rfl) [some (.ref 35), some (.int (nI 0)), some (.int s), some (.int p)] rfl ?_
  refine am_q_iload_n rfl rfl ?_
  refine am_q_tsw (t := 86) rfl (by decide) ?_
  refine am_q_iconst (v := nI 1) rfl rfl ?_
  refine am_q_ireturn rfl rfl rfl ?_
  rfl

theorem s_allows2_35 (d : Nat) (s p : Int32) (n : Nat) {V : sVal} {W : sWall} {μ : am_M2} (ν : am_N2) (hV : xVal μ V) (hO : vOk V) (hW : xWall μ 35 W) (hI : sI (vN V) (vP V) W.1 W.2.1) : am_run (d + 4) 72 [.ref 35, .int (nI 2), .int s, .int p] (am_hp n μ ν) = some (some (.int (sB (dCan V W 2 s p))), am_hp n μ ν) := by
  have h6 := hO.1.1
  have hP8 := hO.1.2.1
  have h8 := sI_8 hO hI
  rw [show dCan V W 2 s p = ((sIs (vN V) W.1 s 1 || sIs (vN V) W.1 s 3) && dMay V W s p) from rfl]
  refine am_r72 (d := d + 3) (Nat.le_of_ble_eq_true rfl) [some (.ref 35), some (.int (nI 2)), some (.int s), some (.int p)] rfl ?_
  refine am_q_iload_n rfl rfl ?_
  refine am_q_tsw (t := 35) rfl (by decide) ?_
  refine am_q_aload_n rfl rfl ?_
  refine am_q_iload_n rfl rfl ?_
  refine am_q_call rfl rfl (s_isLoose35 _ s n ν hV.1 hW hI) rfl ?_
  refine am_q_if_eqB rfl (fun c_40 => ?_) (fun c_40 => ?_)
  · refine am_q_iconst (v := nI 0) rfl rfl ?_
    refine am_q_ireturn rfl rfl rfl ?_
    first | (rw [c_40]; rfl) | (rw [c_40, dMay_no c_51]; rfl) | (rw [dMay_yes hk hq, c_70, c_40]; rfl)
  · obtain ⟨k, hk⟩ : ∃ k, am_ix s (vN V) = some k := by (rcases (Bool.or_eq_true _ _).mp c_40 with q | q; exact (sIs_some q).imp fun _ z => z.1; exact (sIs_some q).imp fun _ z => z.1)
    obtain ⟨hkN, rfl⟩ := sn_ix_in hk (by omega)
    refine am_q_aload_n rfl rfl ?_
    refine am_q_gr rfl rfl rfl ?_
    refine am_q_iload_n rfl rfl ?_
    refine am_q_call rfl rfl (s_hasPlace _ n p ν hV.1) rfl ?_
    refine am_q_if_eqB rfl (fun c_51 => ?_) (fun c_51 => ?_)
    · refine am_q_iconst (v := nI 0) rfl rfl ?_
      refine am_q_ireturn rfl rfl rfl ?_
      first | (rw [c_40]; rfl) | (rw [c_40, dMay_no c_51]; rfl) | (rw [dMay_yes hk hq, c_70, c_40]; rfl)
    · obtain ⟨q, hq⟩ := Option.isSome_iff_exists.mp c_51
      obtain ⟨hqP, rfl⟩ := sn_ix_in hq (by omega)
      refine am_q_aload_n rfl rfl ?_
      refine am_q_gr rfl rfl rfl ?_
      refine am_q_iload_n rfl rfl ?_
      refine am_q_aload_n rfl rfl ?_
      refine am_q_gr rfl rfl rfl ?_
      refine am_q_call rfl rfl (s_openTo _ n 37 k ν hkN hV hO rfl hW.2.1 h8) rfl ?_
      refine am_q_iload_n rfl rfl ?_
      refine am_q_call rfl rfl (s_hasN _ _ q (Nat.lt_of_lt_of_le (sOpen_lt hO _ _) (by decide)) (by omega) _) rfl ?_
      refine am_q_if_eqB rfl (fun c_70 => ?_) (fun c_70 => ?_)
      · refine am_q_iconst (v := nI 0) rfl rfl ?_
        refine am_q_ireturn rfl rfl rfl ?_
        first | (rw [c_40]; rfl) | (rw [c_40, dMay_no c_51]; rfl) | (rw [dMay_yes hk hq, c_70, c_40]; rfl)
      · refine am_q_iconst (v := nI 1) rfl rfl ?_
        refine am_q_goto rfl ?_
        refine am_q_ireturn rfl rfl rfl ?_
        first | (rw [c_40]; rfl) | (rw [c_40, dMay_no c_51]; rfl) | (rw [dMay_yes hk hq, c_70, c_40]; rfl)
theorem s_allows35 (d e : Nat) (he : e < 4) (s p : Int32) (n : Nat) {V : sVal} {W : sWall} {μ : am_M2} (ν : am_N2) (hV : xVal μ V) (hO : vOk V) (hW : xWall μ 35 W) (hI : sI (vN V) (vP V) W.1 W.2.1) : am_run (d + 4) 72 [.ref 35, .int (nI e), .int s, .int p] (am_hp n μ ν) = some (some (.int (sB (dCan V W e s p))), am_hp n μ ν) := by
  rcases (show e = 0 ∨ e = 1 ∨ e = 2 ∨ e = 3 by omega) with rfl | rfl | rfl | rfl
  · exact s_allows0_35 (d + 1) s p n ν hV hO hW hI
  · exact s_allows1_35 (d + 1) s p n ν hV hO hW hI
  · exact s_allows2_35 d s p n ν hV hO hW hI
  · exact s_allows3_35 (d + 1) s p n ν hV hO hW hI
theorem dCan2 {V : sVal} {W : sWall} {s p : Int32} (hc : dCan V W 2 s p = true) : ∃ k q, am_ix s (vN V) = some k ∧ am_ix p (vP V) = some q := by
  have h2 := ((Bool.and_eq_true _ _).mp (show ((sIs (vN V) W.1 s 1 || sIs (vN V) W.1 s 3) && dMay V W s p) = true from hc)).2
  unfold dMay at h2
  split at h2
  · rename_i k q hk hq; exact ⟨k, q, hk, hq⟩
  · cases h2
theorem s_perform0_35 (d : Nat) (s0 p0 : Int32) (n : Nat) {V : sVal} {W : sWall} {μ : am_M2} (ν : am_N2) (hV : xVal μ V) (hO : vOk V) (hW : xWall μ 35 W) (hI : sI (vN V) (vP V) W.1 W.2.1) (ht : W.2.2 < 2 ^ 30) : ∃ (g a b : Nat → Int32), am_run (d + 6) 83 [.ref 35, .int (nI 0), .int s0, .int p0] (am_hp n μ ν) = some (none, am_hp n (am_wl (am_rw μ 15 g) 35 a b (nI (dDo V W 0 s0 p0).2.2)) ν) ∧ (∀ s, s < 6 → a s = nI ((dDo V W 0 s0 p0).1 s)) ∧ (∀ s, s < 6 → b s = sn_spot ((dDo V W 0 s0 p0).2.1 s)) := by
  obtain ⟨g, a, b, hpw, ha, hb⟩ := s_passWeek35 d n (vCold V W.2.2) ν hV hO hW hI ht
  have key : ∃ r, am_run (d + 6) 83 [.ref 35, .int (nI 0), .int s0, .int p0] (am_hp n μ ν) = some r ∧ ∃ (g a b : Nat → Int32), r = (none, am_hp n (am_wl (am_rw μ 15 g) 35 a b (nI (dDo V W 0 s0 p0).2.2)) ν) ∧ (∀ s, s < 6 → a s = nI ((dDo V W 0 s0 p0).1 s)) ∧ (∀ s, s < 6 → b s = sn_spot ((dDo V W 0 s0 p0).2.1 s)) := am_run_wE (k := 83) (d := d + 5) rfl rfl (Nat.le_of_ble_eq_true rfl) [some (.ref 35), some (.int (nI 0)), some (.int s0), some (.int p0)] rfl (by
    refine am_q_iload_n rfl rfl ?_
    refine am_q_if_ne rfl (fun c_1 => absurd (rfl) c_1) (fun c_1 => ?_)
    refine am_q_aload_n rfl rfl ?_
    refine am_q_aload_n rfl rfl ?_
    refine am_q_gr rfl rfl rfl ?_
    refine am_q_aload_n rfl rfl ?_
    refine am_q_gi rfl rfl rfl hW.2.2 ?_
    refine am_q_call rfl rfl (s_coldOf _ n _ (by omega) ν hV hO) rfl ?_
    refine am_q_call rfl rfl (hpw) rfl ?_
    refine am_q_popi rfl ?_
    refine am_q_goto rfl ?_
    refine am_q_return rfl rfl ?_
    exact ⟨g, a, b, rfl, ha, hb⟩)
  obtain ⟨r, h1, g, a, b, h2, h3⟩ := key
  exact ⟨g, a, b, by rw [h1, h2], h3⟩

theorem s_performC1_35 (d : Nat) (k : Nat) (hk : k < 6) (p0 : Int32) (n : Nat) (μ : am_M2) (ν : am_N2) : am_run (d + 1) 83 [.ref 35, .int (nI 1), .int (nI k), .int p0] (am_hp n μ ν) = some (none, am_hp n (am_up (am_up μ 36 k (nI 1)) 37 k (nI 0)) ν) := by
  refine am_r83 (d := d + 0) (Nat.le_of_ble_eq_true rfl) [some (.ref 35), some (.int (nI 1)), some (.int (nI k)), some (.int p0)] rfl ?_
  refine am_q_iload_n rfl rfl ?_
  refine am_q_if_ne rfl (fun c_1 => ?_) (fun c_1 => absurd c_1 ((by decide)))
  refine am_q_iload_n rfl rfl ?_
  refine am_q_iconst (v := nI 2) rfl rfl ?_
  refine am_q_icmp_ne rfl (fun c_25 => ?_) (fun c_25 => absurd c_25 ((by decide)))
  refine am_q_aload_n rfl rfl ?_
  refine am_q_gr rfl rfl rfl ?_
  refine am_q_iload_n rfl rfl ?_
  refine am_q_iconst (v := nI 1) rfl rfl ?_
  refine am_q_iast rfl rfl (by first | exact am_ix_nI (by omega) (by omega) | rfl) rfl ?_
  refine am_q_aload_n rfl rfl ?_
  refine am_q_gr rfl rfl rfl ?_
  refine am_q_iload_n rfl rfl ?_
  refine am_q_iconst (v := nI 0) rfl rfl ?_
  refine am_q_iast rfl rfl (by first | exact am_ix_nI (by omega) (by omega) | rfl) rfl ?_
  refine am_q_return rfl rfl ?_
  rfl

theorem s_performC3_35 (d : Nat) (k : Nat) (hk : k < 6) (p0 : Int32) (n : Nat) (μ : am_M2) (ν : am_N2) : am_run (d + 1) 83 [.ref 35, .int (nI 3), .int (nI k), .int p0] (am_hp n μ ν) = some (none, am_hp n (am_up (am_up μ 36 k (nI 1)) 37 k (nI 0)) ν) := by
  refine am_r83 (d := d + 0) (Nat.le_of_ble_eq_true rfl) [some (.ref 35), some (.int (nI 3)), some (.int (nI k)), some (.int p0)] rfl ?_
  refine am_q_iload_n rfl rfl ?_
  refine am_q_if_ne rfl (fun c_1 => ?_) (fun c_1 => absurd c_1 ((by decide)))
  refine am_q_iload_n rfl rfl ?_
  refine am_q_iconst (v := nI 2) rfl rfl ?_
  refine am_q_icmp_ne rfl (fun c_25 => ?_) (fun c_25 => absurd c_25 ((by decide)))
  refine am_q_aload_n rfl rfl ?_
  refine am_q_gr rfl rfl rfl ?_
  refine am_q_iload_n rfl rfl ?_
  refine am_q_iconst (v := nI 1) rfl rfl ?_
  refine am_q_iast rfl rfl (by first | exact am_ix_nI (by omega) (by omega) | rfl) rfl ?_
  refine am_q_aload_n rfl rfl ?_
  refine am_q_gr rfl rfl rfl ?_
  refine am_q_iload_n rfl rfl ?_
  refine am_q_iconst (v := nI 0) rfl rfl ?_
  refine am_q_iast rfl rfl (by first | exact am_ix_nI (by omega) (by omega) | rfl) rfl ?_
  refine am_q_return rfl rfl ?_
  rfl

theorem s_performS_35 (d : Nat) (k q : Nat) (hk : k < 6) (hq : q < 31) (n : Nat) (μ : am_M2) (ν : am_N2) : am_run (d + 1) 83 [.ref 35, .int (nI 2), .int (nI k), .int (nI q)] (am_hp n μ ν) = some (none, am_hp n (am_up (am_up μ 36 k (nI 2)) 37 k (nI (2 ^ q))) ν) := by
  refine am_r83 (d := d + 0) (Nat.le_of_ble_eq_true rfl) [some (.ref 35), some (.int (nI 2)), some (.int (nI k)), some (.int (nI q))] rfl ?_
  refine am_q_iload_n rfl rfl ?_
  refine am_q_if_ne rfl (fun c_1 => ?_) (fun c_1 => absurd c_1 ((by decide)))
  refine am_q_iload_n rfl rfl ?_
  refine am_q_iconst (v := nI 2) rfl rfl ?_
  refine am_q_icmp_ne rfl (fun c_25 => absurd (rfl) c_25) (fun c_25 => ?_)
  refine am_q_aload_n rfl rfl ?_
  refine am_q_gr rfl rfl rfl ?_
  refine am_q_iload_n rfl rfl ?_
  refine am_q_iconst (v := nI 2) rfl rfl ?_
  refine am_q_iast rfl rfl (by first | exact am_ix_nI (by omega) (by omega) | rfl) rfl ?_
  refine am_q_aload_n rfl rfl ?_
  refine am_q_gr rfl rfl rfl ?_
  refine am_q_iload_n rfl rfl ?_
  refine am_q_iconst (v := nI 1) rfl rfl ?_
  refine am_q_iload_n rfl rfl ?_
  refine am_q_ishl rfl (sn_shl1 (by omega)) ?_
  refine am_q_iast rfl rfl (by first | exact am_ix_nI (by omega) (by omega) | rfl) rfl ?_
  refine am_q_goto rfl ?_
  refine am_q_return rfl rfl ?_
  rfl

theorem s_performK35 (d e k : Nat) (he : e = 1 ∨ e = 3) (hk : k < 6) (p0 : Int32) (n : Nat) {V : sVal} {W : sWall} {μ : am_M2} (ν : am_N2) (hV : xVal μ V) (hO : vOk V) (hW : xWall μ 35 W) (hI : sI (vN V) (vP V) W.1 W.2.1) : ∃ (g a b : Nat → Int32), am_run (d + 1) 83 [.ref 35, .int (nI e), .int (nI k), .int p0] (am_hp n μ ν) = some (none, am_hp n (am_wl (am_rw μ 15 g) 35 a b (nI W.2.2)) ν) ∧ (∀ s, s < 6 → a s = nI (fup W.1 k 1 s)) ∧ (∀ s, s < 6 → b s = sn_spot (fup W.2.1 k none s)) := by
  refine ⟨μ 15, upd (μ 36) k (nI 1), upd (μ 37) k (nI 0), ?_, fup_nI hW.1 rfl, fup_sp hW.2.1 rfl⟩
  rw [am_rw_self, ← hW.2.2, ← show am_up (am_up μ 36 k (nI 1)) 37 k (nI 0) = am_wl μ 35 (upd (μ 36) k (nI 1)) (upd (μ 37) k (nI 0)) (μ 35 3) from wl_two μ 35 k _ _]
  rcases he with rfl | rfl
  · exact s_performC1_35 d k hk p0 n μ ν
  · exact s_performC3_35 d k hk p0 n μ ν
theorem s_performT35 (d k q : Nat) (hk : k < 6) (hq : q < 31) (n : Nat) {V : sVal} {W : sWall} {μ : am_M2} (ν : am_N2) (hV : xVal μ V) (hO : vOk V) (hW : xWall μ 35 W) (hI : sI (vN V) (vP V) W.1 W.2.1) : ∃ (g a b : Nat → Int32), am_run (d + 1) 83 [.ref 35, .int (nI 2), .int (nI k), .int (nI q)] (am_hp n μ ν) = some (none, am_hp n (am_wl (am_rw μ 15 g) 35 a b (nI W.2.2)) ν) ∧ (∀ s, s < 6 → a s = nI (fup W.1 k 2 s)) ∧ (∀ s, s < 6 → b s = sn_spot (fup W.2.1 k (some q) s)) := by
  refine ⟨μ 15, upd (μ 36) k (nI 2), upd (μ 37) k (nI (2 ^ q)), ?_, fup_nI hW.1 rfl, fup_sp hW.2.1 rfl⟩
  rw [am_rw_self, ← hW.2.2, ← show am_up (am_up μ 36 k (nI 2)) 37 k (nI (2 ^ q)) = am_wl μ 35 (upd (μ 36) k (nI 2)) (upd (μ 37) k (nI (2 ^ q))) (μ 35 3) from wl_two μ 35 k _ _]
  exact s_performS_35 d k q hk hq n μ ν
theorem s_perform35 (d e : Nat) (he : e < 4) (s0 p0 : Int32) (n : Nat) {V : sVal} {W : sWall} {μ : am_M2} (ν : am_N2) (hV : xVal μ V) (hO : vOk V) (hW : xWall μ 35 W) (hI : sI (vN V) (vP V) W.1 W.2.1) (ht : W.2.2 < 2 ^ 30) (hc : dCan V W e s0 p0 = true) : ∃ (g a b : Nat → Int32), am_run (d + 6) 83 [.ref 35, .int (nI e), .int s0, .int p0] (am_hp n μ ν) = some (none, am_hp n (am_wl (am_rw μ 15 g) 35 a b (nI (dDo V W e s0 p0).2.2)) ν) ∧ (∀ s, s < 6 → a s = nI ((dDo V W e s0 p0).1 s)) ∧ (∀ s, s < 6 → b s = sn_spot ((dDo V W e s0 p0).2.1 s)) := by
  rcases (show e = 0 ∨ e = 1 ∨ e = 2 ∨ e = 3 by omega) with rfl | rfl | rfl | rfl
  · exact s_perform0_35 d s0 p0 n ν hV hO hW hI ht
  · obtain ⟨k, hk, -⟩ := sIs_some (show sIs (vN V) W.1 s0 0 = true from hc)
    have h6 := hO.1.1
    obtain ⟨hkN, hs⟩ := sn_ix_in hk (by omega)
    rw [dDo1 hk (Or.inl rfl), hs]
    exact s_performK35 (d + 5) 1 k (Or.inl rfl) (by omega) p0 n ν hV hO hW hI
  · obtain ⟨k, q, hk, hq⟩ := dCan2 hc
    have h6 := hO.1.1
    have hP8 := hO.1.2.1
    obtain ⟨hkN, hs⟩ := sn_ix_in hk (by omega)
    obtain ⟨hqN, hs2⟩ := sn_ix_in hq (by omega)
    rw [dDo2 hk hq, hs, hs2]
    exact s_performT35 (d + 5) k q (by omega) (by omega) n ν hV hO hW hI
  · obtain ⟨k, hk, -⟩ := sIs_some (show sIs (vN V) W.1 s0 2 = true from hc)
    have h6 := hO.1.1
    obtain ⟨hkN, hs⟩ := sn_ix_in hk (by omega)
    rw [dDo1 hk (Or.inr rfl), hs]
    exact s_performK35 (d + 5) 3 k (Or.inr rfl) (by omega) p0 n ν hV hO hW hI
theorem s_allows1_38 (d : Nat) (s p : Int32) (n : Nat) {V : sVal} {W : sWall} {μ : am_M2} (ν : am_N2) (hV : xVal μ V) (hO : vOk V) (hW : xWall μ 38 W) (hI : sI (vN V) (vP V) W.1 W.2.1) : am_run (d + 3) 72 [.ref 38, .int (nI 1), .int s, .int p] (am_hp n μ ν) = some (some (.int (sB (dCan V W 1 s p))), am_hp n μ ν) := by
  refine am_r72 (d := d + 2) (Nat.le_of_ble_eq_true rfl) [some (.ref 38), some (.int (nI 1)), some (.int s), some (.int p)] rfl ?_
  refine am_q_iload_n rfl rfl ?_
  refine am_q_tsw (t := 28) rfl (by decide) ?_
  refine am_q_aload_n rfl rfl ?_
  refine am_q_iload_n rfl rfl ?_
  refine am_q_iconst (v := nI 0) rfl rfl ?_
  refine am_q_call rfl rfl (s_is38 _ s 0 (by omega) n ν hV.1 hW hI) rfl ?_
  refine am_q_ireturn rfl rfl (sB_ok _) ?_
  rfl

theorem s_allows3_38 (d : Nat) (s p : Int32) (n : Nat) {V : sVal} {W : sWall} {μ : am_M2} (ν : am_N2) (hV : xVal μ V) (hO : vOk V) (hW : xWall μ 38 W) (hI : sI (vN V) (vP V) W.1 W.2.1) : am_run (d + 3) 72 [.ref 38, .int (nI 3), .int s, .int p] (am_hp n μ ν) = some (some (.int (sB (dCan V W 3 s p))), am_hp n μ ν) := by
  refine am_r72 (d := d + 2) (Nat.le_of_ble_eq_true rfl) [some (.ref 38), some (.int (nI 3)), some (.int s), some (.int p)] rfl ?_
  refine am_q_iload_n rfl rfl ?_
  refine am_q_tsw (t := 79) rfl (by decide) ?_
  refine am_q_aload_n rfl rfl ?_
  refine am_q_iload_n rfl rfl ?_
  refine am_q_iconst (v := nI 2) rfl rfl ?_
  refine am_q_call rfl rfl (s_is38 _ s 2 (by omega) n ν hV.1 hW hI) rfl ?_
  refine am_q_ireturn rfl rfl (sB_ok _) ?_
  rfl

theorem s_allows0_38 (d : Nat) (s p : Int32) (n : Nat) {V : sVal} {W : sWall} {μ : am_M2} (ν : am_N2) (hV : xVal μ V) (hO : vOk V) (hW : xWall μ 38 W) (hI : sI (vN V) (vP V) W.1 W.2.1) : am_run (d + 3) 72 [.ref 38, .int (nI 0), .int s, .int p] (am_hp n μ ν) = some (some (.int (sB (dCan V W 0 s p))), am_hp n μ ν) := by
  refine am_r72 (d := d + 2) (Nat.le_of_ble_eq_true rfl) [some (.ref 38), some (.int (nI 0)), some (.int s), some (.int p)] rfl ?_
  refine am_q_iload_n rfl rfl ?_
  refine am_q_tsw (t := 86) rfl (by decide) ?_
  refine am_q_iconst (v := nI 1) rfl rfl ?_
  refine am_q_ireturn rfl rfl rfl ?_
  rfl

theorem s_allows2_38 (d : Nat) (s p : Int32) (n : Nat) {V : sVal} {W : sWall} {μ : am_M2} (ν : am_N2) (hV : xVal μ V) (hO : vOk V) (hW : xWall μ 38 W) (hI : sI (vN V) (vP V) W.1 W.2.1) : am_run (d + 4) 72 [.ref 38, .int (nI 2), .int s, .int p] (am_hp n μ ν) = some (some (.int (sB (dCan V W 2 s p))), am_hp n μ ν) := by
  have h6 := hO.1.1
  have hP8 := hO.1.2.1
  have h8 := sI_8 hO hI
  rw [show dCan V W 2 s p = ((sIs (vN V) W.1 s 1 || sIs (vN V) W.1 s 3) && dMay V W s p) from rfl]
  refine am_r72 (d := d + 3) (Nat.le_of_ble_eq_true rfl) [some (.ref 38), some (.int (nI 2)), some (.int s), some (.int p)] rfl ?_
  refine am_q_iload_n rfl rfl ?_
  refine am_q_tsw (t := 35) rfl (by decide) ?_
  refine am_q_aload_n rfl rfl ?_
  refine am_q_iload_n rfl rfl ?_
  refine am_q_call rfl rfl (s_isLoose38 _ s n ν hV.1 hW hI) rfl ?_
  refine am_q_if_eqB rfl (fun c_40 => ?_) (fun c_40 => ?_)
  · refine am_q_iconst (v := nI 0) rfl rfl ?_
    refine am_q_ireturn rfl rfl rfl ?_
    first | (rw [c_40]; rfl) | (rw [c_40, dMay_no c_51]; rfl) | (rw [dMay_yes hk hq, c_70, c_40]; rfl)
  · obtain ⟨k, hk⟩ : ∃ k, am_ix s (vN V) = some k := by (rcases (Bool.or_eq_true _ _).mp c_40 with q | q; exact (sIs_some q).imp fun _ z => z.1; exact (sIs_some q).imp fun _ z => z.1)
    obtain ⟨hkN, rfl⟩ := sn_ix_in hk (by omega)
    refine am_q_aload_n rfl rfl ?_
    refine am_q_gr rfl rfl rfl ?_
    refine am_q_iload_n rfl rfl ?_
    refine am_q_call rfl rfl (s_hasPlace _ n p ν hV.1) rfl ?_
    refine am_q_if_eqB rfl (fun c_51 => ?_) (fun c_51 => ?_)
    · refine am_q_iconst (v := nI 0) rfl rfl ?_
      refine am_q_ireturn rfl rfl rfl ?_
      first | (rw [c_40]; rfl) | (rw [c_40, dMay_no c_51]; rfl) | (rw [dMay_yes hk hq, c_70, c_40]; rfl)
    · obtain ⟨q, hq⟩ := Option.isSome_iff_exists.mp c_51
      obtain ⟨hqP, rfl⟩ := sn_ix_in hq (by omega)
      refine am_q_aload_n rfl rfl ?_
      refine am_q_gr rfl rfl rfl ?_
      refine am_q_iload_n rfl rfl ?_
      refine am_q_aload_n rfl rfl ?_
      refine am_q_gr rfl rfl rfl ?_
      refine am_q_call rfl rfl (s_openTo _ n 40 k ν hkN hV hO rfl hW.2.1 h8) rfl ?_
      refine am_q_iload_n rfl rfl ?_
      refine am_q_call rfl rfl (s_hasN _ _ q (Nat.lt_of_lt_of_le (sOpen_lt hO _ _) (by decide)) (by omega) _) rfl ?_
      refine am_q_if_eqB rfl (fun c_70 => ?_) (fun c_70 => ?_)
      · refine am_q_iconst (v := nI 0) rfl rfl ?_
        refine am_q_ireturn rfl rfl rfl ?_
        first | (rw [c_40]; rfl) | (rw [c_40, dMay_no c_51]; rfl) | (rw [dMay_yes hk hq, c_70, c_40]; rfl)
      · refine am_q_iconst (v := nI 1) rfl rfl ?_
        refine am_q_goto rfl ?_
        refine am_q_ireturn rfl rfl rfl ?_
        first | (rw [c_40]; rfl) | (rw [c_40, dMay_no c_51]; rfl) | (rw [dMay_yes hk hq, c_70, c_40]; rfl)
theorem s_allows38 (d e : Nat) (he : e < 4) (s p : Int32) (n : Nat) {V : sVal} {W : sWall} {μ : am_M2} (ν : am_N2) (hV : xVal μ V) (hO : vOk V) (hW : xWall μ 38 W) (hI : sI (vN V) (vP V) W.1 W.2.1) : am_run (d + 4) 72 [.ref 38, .int (nI e), .int s, .int p] (am_hp n μ ν) = some (some (.int (sB (dCan V W e s p))), am_hp n μ ν) := by
  rcases (show e = 0 ∨ e = 1 ∨ e = 2 ∨ e = 3 by omega) with rfl | rfl | rfl | rfl
  · exact s_allows0_38 (d + 1) s p n ν hV hO hW hI
  · exact s_allows1_38 (d + 1) s p n ν hV hO hW hI
  · exact s_allows2_38 d s p n ν hV hO hW hI
  · exact s_allows3_38 (d + 1) s p n ν hV hO hW hI
theorem s_perform0_38 (d : Nat) (s0 p0 : Int32) (n : Nat) {V : sVal} {W : sWall} {μ : am_M2} (ν : am_N2) (hV : xVal μ V) (hO : vOk V) (hW : xWall μ 38 W) (hI : sI (vN V) (vP V) W.1 W.2.1) (ht : W.2.2 < 2 ^ 30) : ∃ (g a b : Nat → Int32), am_run (d + 6) 83 [.ref 38, .int (nI 0), .int s0, .int p0] (am_hp n μ ν) = some (none, am_hp n (am_wl (am_rw μ 15 g) 38 a b (nI (dDo V W 0 s0 p0).2.2)) ν) ∧ (∀ s, s < 6 → a s = nI ((dDo V W 0 s0 p0).1 s)) ∧ (∀ s, s < 6 → b s = sn_spot ((dDo V W 0 s0 p0).2.1 s)) := by
  obtain ⟨g, a, b, hpw, ha, hb⟩ := s_passWeek38 d n (vCold V W.2.2) ν hV hO hW hI ht
  have key : ∃ r, am_run (d + 6) 83 [.ref 38, .int (nI 0), .int s0, .int p0] (am_hp n μ ν) = some r ∧ ∃ (g a b : Nat → Int32), r = (none, am_hp n (am_wl (am_rw μ 15 g) 38 a b (nI (dDo V W 0 s0 p0).2.2)) ν) ∧ (∀ s, s < 6 → a s = nI ((dDo V W 0 s0 p0).1 s)) ∧ (∀ s, s < 6 → b s = sn_spot ((dDo V W 0 s0 p0).2.1 s)) := am_run_wE (k := 83) (d := d + 5) rfl rfl (Nat.le_of_ble_eq_true rfl) [some (.ref 38), some (.int (nI 0)), some (.int s0), some (.int p0)] rfl (by
    refine am_q_iload_n rfl rfl ?_
    refine am_q_if_ne rfl (fun c_1 => absurd (rfl) c_1) (fun c_1 => ?_)
    refine am_q_aload_n rfl rfl ?_
    refine am_q_aload_n rfl rfl ?_
    refine am_q_gr rfl rfl rfl ?_
    refine am_q_aload_n rfl rfl ?_
    refine am_q_gi rfl rfl rfl hW.2.2 ?_
    refine am_q_call rfl rfl (s_coldOf _ n _ (by omega) ν hV hO) rfl ?_
    refine am_q_call rfl rfl (hpw) rfl ?_
    refine am_q_popi rfl ?_
    refine am_q_goto rfl ?_
    refine am_q_return rfl rfl ?_
    exact ⟨g, a, b, rfl, ha, hb⟩)
  obtain ⟨r, h1, g, a, b, h2, h3⟩ := key
  exact ⟨g, a, b, by rw [h1, h2], h3⟩

theorem s_performC1_38 (d : Nat) (k : Nat) (hk : k < 6) (p0 : Int32) (n : Nat) (μ : am_M2) (ν : am_N2) : am_run (d + 1) 83 [.ref 38, .int (nI 1), .int (nI k), .int p0] (am_hp n μ ν) = some (none, am_hp n (am_up (am_up μ 39 k (nI 1)) 40 k (nI 0)) ν) := by
  refine am_r83 (d := d + 0) (Nat.le_of_ble_eq_true rfl) [some (.ref 38), some (.int (nI 1)), some (.int (nI k)), some (.int p0)] rfl ?_
  refine am_q_iload_n rfl rfl ?_
  refine am_q_if_ne rfl (fun c_1 => ?_) (fun c_1 => absurd c_1 ((by decide)))
  refine am_q_iload_n rfl rfl ?_
  refine am_q_iconst (v := nI 2) rfl rfl ?_
  refine am_q_icmp_ne rfl (fun c_25 => ?_) (fun c_25 => absurd c_25 ((by decide)))
  refine am_q_aload_n rfl rfl ?_
  refine am_q_gr rfl rfl rfl ?_
  refine am_q_iload_n rfl rfl ?_
  refine am_q_iconst (v := nI 1) rfl rfl ?_
  refine am_q_iast rfl rfl (by first | exact am_ix_nI (by omega) (by omega) | rfl) rfl ?_
  refine am_q_aload_n rfl rfl ?_
  refine am_q_gr rfl rfl rfl ?_
  refine am_q_iload_n rfl rfl ?_
  refine am_q_iconst (v := nI 0) rfl rfl ?_
  refine am_q_iast rfl rfl (by first | exact am_ix_nI (by omega) (by omega) | rfl) rfl ?_
  refine am_q_return rfl rfl ?_
  rfl

theorem s_performC3_38 (d : Nat) (k : Nat) (hk : k < 6) (p0 : Int32) (n : Nat) (μ : am_M2) (ν : am_N2) : am_run (d + 1) 83 [.ref 38, .int (nI 3), .int (nI k), .int p0] (am_hp n μ ν) = some (none, am_hp n (am_up (am_up μ 39 k (nI 1)) 40 k (nI 0)) ν) := by
  refine am_r83 (d := d + 0) (Nat.le_of_ble_eq_true rfl) [some (.ref 38), some (.int (nI 3)), some (.int (nI k)), some (.int p0)] rfl ?_
  refine am_q_iload_n rfl rfl ?_
  refine am_q_if_ne rfl (fun c_1 => ?_) (fun c_1 => absurd c_1 ((by decide)))
  refine am_q_iload_n rfl rfl ?_
  refine am_q_iconst (v := nI 2) rfl rfl ?_
  refine am_q_icmp_ne rfl (fun c_25 => ?_) (fun c_25 => absurd c_25 ((by decide)))
  refine am_q_aload_n rfl rfl ?_
  refine am_q_gr rfl rfl rfl ?_
  refine am_q_iload_n rfl rfl ?_
  refine am_q_iconst (v := nI 1) rfl rfl ?_
  refine am_q_iast rfl rfl (by first | exact am_ix_nI (by omega) (by omega) | rfl) rfl ?_
  refine am_q_aload_n rfl rfl ?_
  refine am_q_gr rfl rfl rfl ?_
  refine am_q_iload_n rfl rfl ?_
  refine am_q_iconst (v := nI 0) rfl rfl ?_
  refine am_q_iast rfl rfl (by first | exact am_ix_nI (by omega) (by omega) | rfl) rfl ?_
  refine am_q_return rfl rfl ?_
  rfl

theorem s_performS_38 (d : Nat) (k q : Nat) (hk : k < 6) (hq : q < 31) (n : Nat) (μ : am_M2) (ν : am_N2) : am_run (d + 1) 83 [.ref 38, .int (nI 2), .int (nI k), .int (nI q)] (am_hp n μ ν) = some (none, am_hp n (am_up (am_up μ 39 k (nI 2)) 40 k (nI (2 ^ q))) ν) := by
  refine am_r83 (d := d + 0) (Nat.le_of_ble_eq_true rfl) [some (.ref 38), some (.int (nI 2)), some (.int (nI k)), some (.int (nI q))] rfl ?_
  refine am_q_iload_n rfl rfl ?_
  refine am_q_if_ne rfl (fun c_1 => ?_) (fun c_1 => absurd c_1 ((by decide)))
  refine am_q_iload_n rfl rfl ?_
  refine am_q_iconst (v := nI 2) rfl rfl ?_
  refine am_q_icmp_ne rfl (fun c_25 => absurd (rfl) c_25) (fun c_25 => ?_)
  refine am_q_aload_n rfl rfl ?_
  refine am_q_gr rfl rfl rfl ?_
  refine am_q_iload_n rfl rfl ?_
  refine am_q_iconst (v := nI 2) rfl rfl ?_
  refine am_q_iast rfl rfl (by first | exact am_ix_nI (by omega) (by omega) | rfl) rfl ?_
  refine am_q_aload_n rfl rfl ?_
  refine am_q_gr rfl rfl rfl ?_
  refine am_q_iload_n rfl rfl ?_
  refine am_q_iconst (v := nI 1) rfl rfl ?_
  refine am_q_iload_n rfl rfl ?_
  refine am_q_ishl rfl (sn_shl1 (by omega)) ?_
  refine am_q_iast rfl rfl (by first | exact am_ix_nI (by omega) (by omega) | rfl) rfl ?_
  refine am_q_goto rfl ?_
  refine am_q_return rfl rfl ?_
  rfl

theorem s_performK38 (d e k : Nat) (he : e = 1 ∨ e = 3) (hk : k < 6) (p0 : Int32) (n : Nat) {V : sVal} {W : sWall} {μ : am_M2} (ν : am_N2) (hV : xVal μ V) (hO : vOk V) (hW : xWall μ 38 W) (hI : sI (vN V) (vP V) W.1 W.2.1) : ∃ (g a b : Nat → Int32), am_run (d + 1) 83 [.ref 38, .int (nI e), .int (nI k), .int p0] (am_hp n μ ν) = some (none, am_hp n (am_wl (am_rw μ 15 g) 38 a b (nI W.2.2)) ν) ∧ (∀ s, s < 6 → a s = nI (fup W.1 k 1 s)) ∧ (∀ s, s < 6 → b s = sn_spot (fup W.2.1 k none s)) := by
  refine ⟨μ 15, upd (μ 39) k (nI 1), upd (μ 40) k (nI 0), ?_, fup_nI hW.1 rfl, fup_sp hW.2.1 rfl⟩
  rw [am_rw_self, ← hW.2.2, ← show am_up (am_up μ 39 k (nI 1)) 40 k (nI 0) = am_wl μ 38 (upd (μ 39) k (nI 1)) (upd (μ 40) k (nI 0)) (μ 38 3) from wl_two μ 38 k _ _]
  rcases he with rfl | rfl
  · exact s_performC1_38 d k hk p0 n μ ν
  · exact s_performC3_38 d k hk p0 n μ ν
theorem s_performT38 (d k q : Nat) (hk : k < 6) (hq : q < 31) (n : Nat) {V : sVal} {W : sWall} {μ : am_M2} (ν : am_N2) (hV : xVal μ V) (hO : vOk V) (hW : xWall μ 38 W) (hI : sI (vN V) (vP V) W.1 W.2.1) : ∃ (g a b : Nat → Int32), am_run (d + 1) 83 [.ref 38, .int (nI 2), .int (nI k), .int (nI q)] (am_hp n μ ν) = some (none, am_hp n (am_wl (am_rw μ 15 g) 38 a b (nI W.2.2)) ν) ∧ (∀ s, s < 6 → a s = nI (fup W.1 k 2 s)) ∧ (∀ s, s < 6 → b s = sn_spot (fup W.2.1 k (some q) s)) := by
  refine ⟨μ 15, upd (μ 39) k (nI 2), upd (μ 40) k (nI (2 ^ q)), ?_, fup_nI hW.1 rfl, fup_sp hW.2.1 rfl⟩
  rw [am_rw_self, ← hW.2.2, ← show am_up (am_up μ 39 k (nI 2)) 40 k (nI (2 ^ q)) = am_wl μ 38 (upd (μ 39) k (nI 2)) (upd (μ 40) k (nI (2 ^ q))) (μ 38 3) from wl_two μ 38 k _ _]
  exact s_performS_38 d k q hk hq n μ ν
theorem s_perform38 (d e : Nat) (he : e < 4) (s0 p0 : Int32) (n : Nat) {V : sVal} {W : sWall} {μ : am_M2} (ν : am_N2) (hV : xVal μ V) (hO : vOk V) (hW : xWall μ 38 W) (hI : sI (vN V) (vP V) W.1 W.2.1) (ht : W.2.2 < 2 ^ 30) (hc : dCan V W e s0 p0 = true) : ∃ (g a b : Nat → Int32), am_run (d + 6) 83 [.ref 38, .int (nI e), .int s0, .int p0] (am_hp n μ ν) = some (none, am_hp n (am_wl (am_rw μ 15 g) 38 a b (nI (dDo V W e s0 p0).2.2)) ν) ∧ (∀ s, s < 6 → a s = nI ((dDo V W e s0 p0).1 s)) ∧ (∀ s, s < 6 → b s = sn_spot ((dDo V W e s0 p0).2.1 s)) := by
  rcases (show e = 0 ∨ e = 1 ∨ e = 2 ∨ e = 3 by omega) with rfl | rfl | rfl | rfl
  · exact s_perform0_38 d s0 p0 n ν hV hO hW hI ht
  · obtain ⟨k, hk, -⟩ := sIs_some (show sIs (vN V) W.1 s0 0 = true from hc)
    have h6 := hO.1.1
    obtain ⟨hkN, hs⟩ := sn_ix_in hk (by omega)
    rw [dDo1 hk (Or.inl rfl), hs]
    exact s_performK38 (d + 5) 1 k (Or.inl rfl) (by omega) p0 n ν hV hO hW hI
  · obtain ⟨k, q, hk, hq⟩ := dCan2 hc
    have h6 := hO.1.1
    have hP8 := hO.1.2.1
    obtain ⟨hkN, hs⟩ := sn_ix_in hk (by omega)
    obtain ⟨hqN, hs2⟩ := sn_ix_in hq (by omega)
    rw [dDo2 hk hq, hs, hs2]
    exact s_performT38 (d + 5) k q (by omega) (by omega) n ν hV hO hW hI
  · obtain ⟨k, hk, -⟩ := sIs_some (show sIs (vN V) W.1 s0 2 = true from hc)
    have h6 := hO.1.1
    obtain ⟨hkN, hs⟩ := sn_ix_in hk (by omega)
    rw [dDo1 hk (Or.inr rfl), hs]
    exact s_performK38 (d + 5) 3 k (Or.inr rfl) (by omega) p0 n ν hV hO hW hI