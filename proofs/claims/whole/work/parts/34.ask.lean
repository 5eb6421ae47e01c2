/-! ===== questions ===== -/
/-- a loop's value -/
def lpF {α : Type} (f : Nat → α → α) (a : α) : Nat → α
  | 0 => a
  | n + 1 => f n (lpF f a n)
theorem lpF_s {α : Type} (f : Nat → α → α) (a : α) (n : Nat) : lpF f a (n + 1) = f n (lpF f a n) := rfl
theorem lpF_0 {α : Type} (f : Nat → α → α) (a : α) : lpF f a 0 = a := rfl
theorem lpF_cong {α : Type} {f g : Nat → α → α} (a : α) : ∀ n, (∀ k x, k < n → f k x = g k x) → lpF f a n = lpF g a n
  | 0, _ => rfl
  | n + 1, h => by rw [lpF_s, lpF_s, lpF_cong a n (fun k x hk => h k x (by omega)), h n _ (by omega)]
theorem pl_none {q : Option Nat} (h : sn_place q = -1) (hb : ∀ k, q = some k → k < 2 ^ 31) : q = none := by
  cases q with
  | none => rfl
  | some k =>
    have h1 : nI k = -1 := h
    have h2 := nI_toInt (hb k rfl)
    rw [h1] at h2
    have h3 : ((-1 : Int32)).toInt = -1 := by decide
    omega
theorem pl_some {q : Option Nat} (h : ¬ sn_place q = -1) : ∃ k, q = some k := by
  cases q with
  | none => exact absurd rfl h
  | some k => exact ⟨k, rfl⟩
def qSoul (V : sVal) (W : sWall) (s w : Int32) : Int32 := if (am_ix s (vN V)).isSome = true then (if w = nI 0 then nI (vK V (ik s)) else if w = nI 1 then nI (vS V (ik s)) else if w = nI 2 then nI (vD V (ik s)) else if w = nI 3 then nI (vW V (ik s)) else if w = nI 4 then nI (W.1 (ik s)) else if w = nI 5 then sn_place (W.2.1 (ik s)) else -2) else -2
def qStands (V : sVal) (W : sWall) (p : Int32) : Int32 := if (am_ix p (vP V)).isSome = true then sn_place (sAt W.2.1 (ik p) (vN V)) else -1
def qMay (V : sVal) (W : sWall) (s : Int32) : Int32 := if (sIs (vN V) W.1 s 1 || sIs (vN V) W.1 s 3) = true then nI (sOpen V W.2.1 (ik s)) else -1
def qBlurts (V : sVal) (W : sWall) (s : Int32) : Int32 := if sIs (vN V) W.1 s 0 = true ∧ vLeak V (ik s) = true then (if vD V (ik s) - W.2.2 + 1 ≤ 60 then nI (vD V (ik s) - W.2.2 + 1) else -1) else -1
def oNb (pl : Nat → Option Nat) (q : Option Nat) : Nat := match q with
  | none => 0
  | some p => sNb (sTk pl) p
def sDrop (V : sVal) (W : sWall) (k c : Nat) : Bool := lwV (vL V) (nI (vW V k)) (nI c) (nI (oNb W.2.1 (W.2.1 k))) (nI W.2.2)
def qLeast (V : sVal) (W : sWall) (s : Int32) : Int32 := if sIs (vN V) W.1 s 2 = true then (if fa_first (sDrop V W (ik s)) 10 < 10 then nI (fa_first (sDrop V W (ik s)) 10) else -1) else -1
def sLean (V : sVal) (pl : Nat → Option Nat) : Int32 := lpF (fun s x => match pl s with
  | none => x
  | some p => x + nI (vW V s) * (nI (2 * p + 1) - nI (vP V))) (nI 0) (vN V)
def qLean (V : sVal) (pl : Nat → Option Nat) : Int32 := if 0 ≤ sLean V pl then sLean V pl else -(sLean V pl)
def sLoad (V : sVal) (W : sWall) : Nat → Nat := lpF (fun s x => if W.1 s = 2 then x + vW V s else x) 0
def sFree (pl : Nat → Option Nat) (p : Nat) : Bool := !(sTk pl).testBit p
def sGaps (pl : Nat → Option Nat) : Nat → Nat := lpF (fun k x => if sFree pl k = true ∧ (k = 0 ∨ sFree pl (k - 1) = false) then x + 1 else x) 0
def sWide (pl : Nat → Option Nat) : Nat → Nat × Nat := lpF (fun k x => (if sFree pl k = true then (if x.1 < x.2 + 1 then x.2 + 1 else x.1) else x.1, if sFree pl k = true then x.2 + 1 else 0)) (0, 0)
def sHeavy (V : sVal) (W : sWall) : Nat → Option Nat := lpF (fun s x => if W.1 s = 2 ∧ (∀ b, x = some b → vW V b < vW V s) then some s else x) none
def sAdj (pl : Nat → Option Nat) (p o : Nat) : Bool := match pl o with
  | none => false
  | some q => decide (q = p + 1) || decide (q + 1 = p)
def qBeside (V : sVal) (W : sWall) (s : Int32) : Int32 := if sIs (vN V) W.1 s 2 = true then (match W.2.1 (ik s) with
  | none => -1
  | some p => nI (sBits (sAdj W.2.1 p) (vN V))) else -1
def sLike (V : sVal) : Nat → Nat := lpF (fun s x => lpF (fun b y => if vW V s = vW V b then y + 1 else y) x s) 0
def qGrudges (V : sVal) (s : Int32) : Int32 := if (am_ix s (vN V)).isSome = true then nI (vFo V (ik s)) else -1
theorem x_soul0 (d : Nat) (s w : Int32) (n : Nat) {V : sVal} {W : sWall} {μ : am_M2} (ν : am_N2) (hV : xVal μ V) (hO : vOk V) (hW : xWall μ 35 W) (hI : sI (vN V) (vP V) W.1 W.2.1) (ht : W.2.2 < 2 ^ 20) (hn : (am_ix s (vN V)).isSome = false) : am_run (d + 3) 63 [.ref 2, .int s, .int w] (am_hp n μ ν) = some (some (.int (qSoul V W s w)), am_hp n μ ν) := by
  refine am_r63 (d := d + 2) (Nat.le_of_ble_eq_true rfl) [some (.ref 2), some (.int s), some (.int w)] rfl ?_
  refine am_q_aload_n rfl rfl ?_
  refine am_q_gr rfl rfl rfl ?_
  refine am_q_iload_n rfl rfl ?_
  refine am_q_call rfl rfl (s_hasSoul _ _ _ _ hV.1) rfl ?_
  refine am_q_if_neB rfl (fun c_8 => absurd c_8 (by simp [hn])) (fun c_8 => ?_)
  refine am_q_bipush (v := -2) rfl rfl ?_
  refine am_q_ireturn rfl rfl rfl ?_
  rw [qSoul, if_neg (by simp [hn])]

theorem x_soul_0 (d : Nat) (k : Nat) (n : Nat) {V : sVal} {W : sWall} {μ : am_M2} (ν : am_N2) (hV : xVal μ V) (hO : vOk V) (hW : xWall μ 35 W) (hI : sI (vN V) (vP V) W.1 W.2.1) (ht : W.2.2 < 2 ^ 20) (hk : k < vN V) : am_run (d + 3) 63 [.ref 2, .int (nI k), .int (nI 0)] (am_hp n μ ν) = some (some (.int (qSoul V W (nI k) (nI 0))), am_hp n μ ν) := by
  have h6 := hO.1.1
  have hP8 := hO.1.2.1
  have h8 := sI_8 hO hI
  refine am_r63 (d := d + 2) (Nat.le_of_ble_eq_true rfl) [some (.ref 2), some (.int (nI k)), some (.int (nI 0))] rfl ?_
  refine am_q_aload_n rfl rfl ?_
  refine am_q_gr rfl rfl rfl ?_
  refine am_q_iload_n rfl rfl ?_
  refine am_q_call rfl rfl (s_hasSoul _ _ _ _ hV.1) rfl ?_
  refine am_q_if_neB rfl (fun c_8 => ?_) (fun c_8 => absurd c_8 (by simp [am_ix_nI hk (show vN V < 2 ^ 31 by omega)]))
  refine am_q_iload_n rfl rfl ?_
  refine am_q_tsw (t := 52) rfl (by decide) ?_
  refine am_q_aload_n rfl rfl ?_
  refine am_q_gr rfl rfl rfl ?_
  refine am_q_gr rfl rfl rfl ?_
  refine am_q_iload_n rfl rfl ?_
  refine am_q_iald rfl rfl (by first | exact am_ix_nI (by omega) (by omega) | rfl) (hV.2.2.2.1 _ (by omega)).1 ?_
  refine am_q_ireturn rfl rfl rfl ?_
  rw [qSoul, if_pos (by simp [am_ix_nI hk (show vN V < 2 ^ 31 by omega)]), ik_nI (by omega)]; rfl

theorem x_soul_1 (d : Nat) (k : Nat) (n : Nat) {V : sVal} {W : sWall} {μ : am_M2} (ν : am_N2) (hV : xVal μ V) (hO : vOk V) (hW : xWall μ 35 W) (hI : sI (vN V) (vP V) W.1 W.2.1) (ht : W.2.2 < 2 ^ 20) (hk : k < vN V) : am_run (d + 3) 63 [.ref 2, .int (nI k), .int (nI 1)] (am_hp n μ ν) = some (some (.int (qSoul V W (nI k) (nI 1))), am_hp n μ ν) := by
  have h6 := hO.1.1
  have hP8 := hO.1.2.1
  have h8 := sI_8 hO hI
  refine am_r63 (d := d + 2) (Nat.le_of_ble_eq_true rfl) [some (.ref 2), some (.int (nI k)), some (.int (nI 1))] rfl ?_
  refine am_q_aload_n rfl rfl ?_
  refine am_q_gr rfl rfl rfl ?_
  refine am_q_iload_n rfl rfl ?_
  refine am_q_call rfl rfl (s_hasSoul _ _ _ _ hV.1) rfl ?_
  refine am_q_if_neB rfl (fun c_8 => ?_) (fun c_8 => absurd c_8 (by simp [am_ix_nI hk (show vN V < 2 ^ 31 by omega)]))
  refine am_q_iload_n rfl rfl ?_
  refine am_q_tsw (t := 62) rfl (by decide) ?_
  refine am_q_aload_n rfl rfl ?_
  refine am_q_gr rfl rfl rfl ?_
  refine am_q_gr rfl rfl rfl ?_
  refine am_q_iload_n rfl rfl ?_
  refine am_q_iald rfl rfl (by first | exact am_ix_nI (by omega) (by omega) | rfl) (hV.2.2.2.1 _ (by omega)).2.1 ?_
  refine am_q_ireturn rfl rfl rfl ?_
  rw [qSoul, if_pos (by simp [am_ix_nI hk (show vN V < 2 ^ 31 by omega)]), ik_nI (by omega)]; rfl

theorem x_soul_2 (d : Nat) (k : Nat) (n : Nat) {V : sVal} {W : sWall} {μ : am_M2} (ν : am_N2) (hV : xVal μ V) (hO : vOk V) (hW : xWall μ 35 W) (hI : sI (vN V) (vP V) W.1 W.2.1) (ht : W.2.2 < 2 ^ 20) (hk : k < vN V) : am_run (d + 3) 63 [.ref 2, .int (nI k), .int (nI 2)] (am_hp n μ ν) = some (some (.int (qSoul V W (nI k) (nI 2))), am_hp n μ ν) := by
  have h6 := hO.1.1
  have hP8 := hO.1.2.1
  have h8 := sI_8 hO hI
  refine am_r63 (d := d + 2) (Nat.le_of_ble_eq_true rfl) [some (.ref 2), some (.int (nI k)), some (.int (nI 2))] rfl ?_
  refine am_q_aload_n rfl rfl ?_
  refine am_q_gr rfl rfl rfl ?_
  refine am_q_iload_n rfl rfl ?_
  refine am_q_call rfl rfl (s_hasSoul _ _ _ _ hV.1) rfl ?_
  refine am_q_if_neB rfl (fun c_8 => ?_) (fun c_8 => absurd c_8 (by simp [am_ix_nI hk (show vN V < 2 ^ 31 by omega)]))
  refine am_q_iload_n rfl rfl ?_
  refine am_q_tsw (t := 72) rfl (by decide) ?_
  refine am_q_aload_n rfl rfl ?_
  refine am_q_gr rfl rfl rfl ?_
  refine am_q_gr rfl rfl rfl ?_
  refine am_q_iload_n rfl rfl ?_
  refine am_q_iald rfl rfl (by first | exact am_ix_nI (by omega) (by omega) | rfl) (hV.2.2.2.1 _ (by omega)).2.2.1 ?_
  refine am_q_ireturn rfl rfl rfl ?_
  rw [qSoul, if_pos (by simp [am_ix_nI hk (show vN V < 2 ^ 31 by omega)]), ik_nI (by omega)]; rfl

theorem x_soul_3 (d : Nat) (k : Nat) (n : Nat) {V : sVal} {W : sWall} {μ : am_M2} (ν : am_N2) (hV : xVal μ V) (hO : vOk V) (hW : xWall μ 35 W) (hI : sI (vN V) (vP V) W.1 W.2.1) (ht : W.2.2 < 2 ^ 20) (hk : k < vN V) : am_run (d + 3) 63 [.ref 2, .int (nI k), .int (nI 3)] (am_hp n μ ν) = some (some (.int (qSoul V W (nI k) (nI 3))), am_hp n μ ν) := by
  have h6 := hO.1.1
  have hP8 := hO.1.2.1
  have h8 := sI_8 hO hI
  refine am_r63 (d := d + 2) (Nat.le_of_ble_eq_true rfl) [some (.ref 2), some (.int (nI k)), some (.int (nI 3))] rfl ?_
  refine am_q_aload_n rfl rfl ?_
  refine am_q_gr rfl rfl rfl ?_
  refine am_q_iload_n rfl rfl ?_
  refine am_q_call rfl rfl (s_hasSoul _ _ _ _ hV.1) rfl ?_
  refine am_q_if_neB rfl (fun c_8 => ?_) (fun c_8 => absurd c_8 (by simp [am_ix_nI hk (show vN V < 2 ^ 31 by omega)]))
  refine am_q_iload_n rfl rfl ?_
  refine am_q_tsw (t := 82) rfl (by decide) ?_
  refine am_q_aload_n rfl rfl ?_
  refine am_q_gr rfl rfl rfl ?_
  refine am_q_gr rfl rfl rfl ?_
  refine am_q_iload_n rfl rfl ?_
  refine am_q_iald rfl rfl (by first | exact am_ix_nI (by omega) (by omega) | rfl) (hV.2.2.2.1 _ (by omega)).2.2.2.1 ?_
  refine am_q_ireturn rfl rfl rfl ?_
  rw [qSoul, if_pos (by simp [am_ix_nI hk (show vN V < 2 ^ 31 by omega)]), ik_nI (by omega)]; rfl

theorem x_soul_4 (d : Nat) (k : Nat) (n : Nat) {V : sVal} {W : sWall} {μ : am_M2} (ν : am_N2) (hV : xVal μ V) (hO : vOk V) (hW : xWall μ 35 W) (hI : sI (vN V) (vP V) W.1 W.2.1) (ht : W.2.2 < 2 ^ 20) (hk : k < vN V) : am_run (d + 3) 63 [.ref 2, .int (nI k), .int (nI 4)] (am_hp n μ ν) = some (some (.int (qSoul V W (nI k) (nI 4))), am_hp n μ ν) := by
  have h6 := hO.1.1
  have hP8 := hO.1.2.1
  have h8 := sI_8 hO hI
  refine am_r63 (d := d + 2) (Nat.le_of_ble_eq_true rfl) [some (.ref 2), some (.int (nI k)), some (.int (nI 4))] rfl ?_
  refine am_q_aload_n rfl rfl ?_
  refine am_q_gr rfl rfl rfl ?_
  refine am_q_iload_n rfl rfl ?_
  refine am_q_call rfl rfl (s_hasSoul _ _ _ _ hV.1) rfl ?_
  refine am_q_if_neB rfl (fun c_8 => ?_) (fun c_8 => absurd c_8 (by simp [am_ix_nI hk (show vN V < 2 ^ 31 by omega)]))
  refine am_q_iload_n rfl rfl ?_
  refine am_q_tsw (t := 92) rfl (by decide) ?_
  refine am_q_aload_n rfl rfl ?_
  refine am_q_gr rfl rfl rfl ?_
  refine am_q_gr rfl rfl rfl ?_
  refine am_q_iload_n rfl rfl ?_
  refine am_q_iald rfl rfl (by first | exact am_ix_nI (by omega) (by omega) | rfl) (hW.1 _ (by omega)) ?_
  refine am_q_ireturn rfl rfl rfl ?_
  rw [qSoul, if_pos (by simp [am_ix_nI hk (show vN V < 2 ^ 31 by omega)]), ik_nI (by omega)]; rfl

theorem x_soul_5 (d : Nat) (k : Nat) (n : Nat) {V : sVal} {W : sWall} {μ : am_M2} (ν : am_N2) (hV : xVal μ V) (hO : vOk V) (hW : xWall μ 35 W) (hI : sI (vN V) (vP V) W.1 W.2.1) (ht : W.2.2 < 2 ^ 20) (hk : k < vN V) : am_run (d + 3) 63 [.ref 2, .int (nI k), .int (nI 5)] (am_hp n μ ν) = some (some (.int (qSoul V W (nI k) (nI 5))), am_hp n μ ν) := by
  have h6 := hO.1.1
  have hP8 := hO.1.2.1
  have h8 := sI_8 hO hI
  refine am_r63 (d := d + 2) (Nat.le_of_ble_eq_true rfl) [some (.ref 2), some (.int (nI k)), some (.int (nI 5))] rfl ?_
  refine am_q_aload_n rfl rfl ?_
  refine am_q_gr rfl rfl rfl ?_
  refine am_q_iload_n rfl rfl ?_
  refine am_q_call rfl rfl (s_hasSoul _ _ _ _ hV.1) rfl ?_
  refine am_q_if_neB rfl (fun c_8 => ?_) (fun c_8 => absurd c_8 (by simp [am_ix_nI hk (show vN V < 2 ^ 31 by omega)]))
  refine am_q_iload_n rfl rfl ?_
  refine am_q_tsw (t := 102) rfl (by decide) ?_
  refine am_q_aload_n rfl rfl ?_
  refine am_q_gr rfl rfl rfl ?_
  refine am_q_gr rfl rfl rfl ?_
  refine am_q_iload_n rfl rfl ?_
  refine am_q_iald rfl rfl (by first | exact am_ix_nI (by omega) (by omega) | rfl) (hW.2.1 _ (by omega)) ?_
  refine am_q_call rfl rfl (s_placeOf _ _ (fun p hp => by have := h8 _ (by omega) p hp; omega) _) rfl ?_
  refine am_q_ireturn rfl rfl rfl ?_
  rw [qSoul, if_pos (by simp [am_ix_nI hk (show vN V < 2 ^ 31 by omega)]), ik_nI (by omega)]; rfl

theorem x_soulN (d : Nat) (k : Nat) (w : Int32) (n : Nat) {V : sVal} {W : sWall} {μ : am_M2} (ν : am_N2) (hV : xVal μ V) (hO : vOk V) (hW : xWall μ 35 W) (hI : sI (vN V) (vP V) W.1 W.2.1) (ht : W.2.2 < 2 ^ 20) (hk : k < vN V) (hw : am_ix w 6 = none) : am_run (d + 3) 63 [.ref 2, .int (nI k), .int w] (am_hp n μ ν) = some (some (.int (qSoul V W (nI k) w)), am_hp n μ ν) := by
  have h6 := hO.1.1
  have hP8 := hO.1.2.1
  have h8 := sI_8 hO hI
  refine am_r63 (d := d + 2) (Nat.le_of_ble_eq_true rfl) [some (.ref 2), some (.int (nI k)), some (.int w)] rfl ?_
  refine am_q_aload_n rfl rfl ?_
  refine am_q_gr rfl rfl rfl ?_
  refine am_q_iload_n rfl rfl ?_
  refine am_q_call rfl rfl (s_hasSoul _ _ _ _ hV.1) rfl ?_
  refine am_q_if_neB rfl (fun c_8 => ?_) (fun c_8 => absurd c_8 (by simp [am_ix_nI hk (show vN V < 2 ^ 31 by omega)]))
  refine am_q_iload_n rfl rfl ?_
  refine am_q_tsw (t := 115) rfl (sw_none (K := 6) hw rfl (by decide) rfl) ?_
  refine am_q_bipush (v := -2) rfl rfl ?_
  refine am_q_ireturn rfl rfl rfl ?_
  rw [qSoul, if_pos (by simp [am_ix_nI hk (show vN V < 2 ^ 31 by omega)])]
  have hq : ∀ i, i < 6 → ¬ w = nI i := fun i hi e => by rw [e, am_ix_nI hi (by decide)] at hw; cases hw
  rw [if_neg (hq 0 (by decide)), if_neg (hq 1 (by decide)), if_neg (hq 2 (by decide)), if_neg (hq 3 (by decide)), if_neg (hq 4 (by decide)), if_neg (hq 5 (by decide))]

/-- StoneSecrets.soul -/
theorem x_soul (d : Nat) (s w : Int32) (n : Nat) {V : sVal} {W : sWall} {μ : am_M2} (ν : am_N2) (hV : xVal μ V) (hO : vOk V) (hW : xWall μ 35 W) (hI : sI (vN V) (vP V) W.1 W.2.1) (ht : W.2.2 < 2 ^ 20) : am_run (d + 3) 63 [.ref 2, .int s, .int w] (am_hp n μ ν) = some (some (.int (qSoul V W s w)), am_hp n μ ν) := by
  have h6 := hO.1.1
  cases hs : (am_ix s (vN V)).isSome with
  | false => exact x_soul0 d s w n ν hV hO hW hI ht hs
  | true =>
    obtain ⟨k, hk, rfl, -⟩ := isI hs (by omega)
    cases hw : am_ix w 6 with
    | none => exact x_soulN d k w n ν hV hO hW hI ht hk hw
    | some i =>
      obtain ⟨hi, rfl⟩ := sn_ix_in hw (by decide)
      rcases (show i = 0 ∨ i = 1 ∨ i = 2 ∨ i = 3 ∨ i = 4 ∨ i = 5 by omega) with rfl | rfl | rfl | rfl | rfl | rfl
      · exact x_soul_0 d k n ν hV hO hW hI ht hk
      · exact x_soul_1 d k n ν hV hO hW hI ht hk
      · exact x_soul_2 d k n ν hV hO hW hI ht hk
      · exact x_soul_3 d k n ν hV hO hW hI ht hk
      · exact x_soul_4 d k n ν hV hO hW hI ht hk
      · exact x_soul_5 d k n ν hV hO hW hI ht hk
/-- StoneSecrets.stands(I)I -/
theorem x_stands (d : Nat) (p : Int32) (n : Nat) {V : sVal} {W : sWall} {μ : am_M2} (ν : am_N2) (hV : xVal μ V) (hO : vOk V) (hW : xWall μ 35 W) (hI : sI (vN V) (vP V) W.1 W.2.1) (ht : W.2.2 < 2 ^ 20) : am_run (d + 3) 67 [.ref 2, .int p] (am_hp n μ ν) = some (some (.int (qStands V W p)), am_hp n μ ν) := by
  have h6 := hO.1.1
  have hP8 := hO.1.2.1
  have h8 := sI_8 hO hI
  refine am_r67 (d := d + 2) (Nat.le_of_ble_eq_true rfl) [some (.ref 2), some (.int p)] rfl ?_
  refine am_q_aload_n rfl rfl ?_
  refine am_q_gr rfl rfl rfl ?_
  refine am_q_iload_n rfl rfl ?_
  refine am_q_call rfl rfl (s_hasPlace _ _ _ _ hV.1) rfl ?_
  refine am_q_if_eqB rfl (fun c_8 => ?_) (fun c_8 => ?_)
  · refine am_q_iconst (v := -1) rfl rfl ?_
    refine am_q_ireturn rfl rfl rfl ?_
    rw [qStands, if_neg (by simp [c_8])]
  · obtain ⟨k, hk, rfl, hq⟩ := isI c_8 (by omega)
    refine am_q_aload_n rfl rfl ?_
    refine am_q_gr rfl rfl rfl ?_
    refine am_q_iconst (v := nI 1) rfl rfl ?_
    refine am_q_iload_n rfl rfl ?_
    refine am_q_ishl rfl (sn_shl1 (by omega)) ?_
    refine am_q_call rfl rfl (s_standing _ k (by omega) _ _ hV.1 hW hI) rfl ?_
    refine am_q_goto rfl ?_
    refine am_q_ireturn rfl rfl rfl ?_
    rw [qStands, if_pos c_8, ik_nI (by omega)]

/-- StoneSecrets.may(I)I -/
theorem x_may (d : Nat) (s : Int32) (n : Nat) {V : sVal} {W : sWall} {μ : am_M2} (ν : am_N2) (hV : xVal μ V) (hO : vOk V) (hW : xWall μ 35 W) (hI : sI (vN V) (vP V) W.1 W.2.1) (ht : W.2.2 < 2 ^ 20) : am_run (d + 5) 100 [.ref 2, .int s] (am_hp n μ ν) = some (some (.int (qMay V W s)), am_hp n μ ν) := by
  have h6 := hO.1.1
  have hP8 := hO.1.2.1
  have h8 := sI_8 hO hI
  refine am_r100 (d := d + 4) (Nat.le_of_ble_eq_true rfl) [some (.ref 2), some (.int s)] rfl ?_
  refine am_q_aload_n rfl rfl ?_
  refine am_q_gr rfl rfl rfl ?_
  refine am_q_iload_n rfl rfl ?_
  refine am_q_call rfl rfl (s_isLoose35 _ _ _ _ hV.1 hW hI) rfl ?_
  refine am_q_if_eqB rfl (fun c_8 => ?_) (fun c_8 => ?_)
  · refine am_q_iconst (v := -1) rfl rfl ?_
    refine am_q_ireturn rfl rfl rfl ?_
    rw [qMay, if_neg (by simp [c_8])]
  · obtain ⟨k, hk, rfl⟩ : ∃ k, k < vN V ∧ s = nI k := by (rcases (Bool.or_eq_true _ _).mp c_8 with q | q; exact (isK q h6).imp fun _ z => ⟨z.1, z.2.1⟩; exact (isK q h6).imp fun _ z => ⟨z.1, z.2.1⟩)
    refine am_q_aload_n rfl rfl ?_
    refine am_q_gr rfl rfl rfl ?_
    refine am_q_iload_n rfl rfl ?_
    refine am_q_aload_n rfl rfl ?_
    refine am_q_gr rfl rfl rfl ?_
    refine am_q_gr rfl rfl rfl ?_
    refine am_q_call rfl rfl (s_openTo _ n 37 k ν hk hV hO rfl hW.2.1 h8) rfl ?_
    refine am_q_goto rfl ?_
    refine am_q_ireturn rfl rfl rfl ?_
    rw [qMay, if_pos c_8, ik_nI (by omega)]

/-- StoneSecrets.grudges(I)I -/
theorem x_grudges (d : Nat) (s : Int32) (n : Nat) {V : sVal} {W : sWall} {μ : am_M2} (ν : am_N2) (hV : xVal μ V) (hO : vOk V) (hW : xWall μ 35 W) (hI : sI (vN V) (vP V) W.1 W.2.1) (ht : W.2.2 < 2 ^ 20) : am_run (d + 3) 146 [.ref 2, .int s] (am_hp n μ ν) = some (some (.int (qGrudges V s)), am_hp n μ ν) := by
  have h6 := hO.1.1
  have hP8 := hO.1.2.1
  have h8 := sI_8 hO hI
  refine am_r146 (d := d + 2) (Nat.le_of_ble_eq_true rfl) [some (.ref 2), some (.int s)] rfl ?_
  refine am_q_aload_n rfl rfl ?_
  refine am_q_gr rfl rfl rfl ?_
  refine am_q_iload_n rfl rfl ?_
  refine am_q_call rfl rfl (s_hasSoul _ _ _ _ hV.1) rfl ?_
  refine am_q_if_eqB rfl (fun c_8 => ?_) (fun c_8 => ?_)
  · refine am_q_iconst (v := -1) rfl rfl ?_
    refine am_q_ireturn rfl rfl rfl ?_
    rw [qGrudges, if_neg (by simp [c_8])]
  · obtain ⟨k, hk, rfl, hq⟩ := isI c_8 (by omega)
    refine am_q_aload_n rfl rfl ?_
    refine am_q_gr rfl rfl rfl ?_
    refine am_q_gr rfl rfl rfl ?_
    refine am_q_iload_n rfl rfl ?_
    refine am_q_iald rfl rfl (by first | exact am_ix_nI (by omega) (by omega) | rfl) (hV.2.2.2.1 _ (by omega)).2.2.2.2 ?_
    refine am_q_goto rfl ?_
    refine am_q_ireturn rfl rfl rfl ?_
    rw [qGrudges, if_pos c_8, ik_nI (by omega)]
