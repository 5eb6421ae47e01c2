theorem sn_xor (a b : Nat) : nI a ^^^ nI b = nI (a ^^^ b) := by
  apply Int32.toBitVec_inj.mp
  simp [nI, BitVec.ofNat_xor]
theorem sn_andn (a : Nat) {b : Nat} (hb : b < 2 ^ 32) : nI a &&& (nI b ^^^ -1) = nI (a &&& (2 ^ 32 - (b + 1))) := by
  rw [show (-1 : Int32) = nI 4294967295 by decide, sn_xor, sn_and]
  congr 2
  apply Nat.eq_of_testBit_eq
  intro i
  rw [Nat.testBit_xor, Nat.testBit_two_pow_sub_succ hb, show (4294967295 : Nat) = 2 ^ 32 - 1 from rfl, Nat.testBit_two_pow_sub_one]
  by_cases h : i < 32
  · simp [h]
  · have : b.testBit i = false := Nat.testBit_lt_two_pow (Nat.lt_of_lt_of_le hb (Nat.pow_le_pow_right (by decide) (by omega)))
    simp [h, this]
/-- right beside a PLACE -/
def sBs (q : Option Nat) : Nat := match q with
  | none => 0
  | some p => 2 ^ (p + 1) ||| 2 ^ p / 2
theorem sBs_lt {q : Option Nat} (h : ∀ p, q = some p → p < 8) : sBs q < 512 := by
  cases q with
  | none => decide
  | some p =>
    have e : ∀ p, p < 8 → sBs (some p) < 512 := by decide +kernel
    exact e p (h p rfl)
theorem sn_bsq {q : Option Nat} (h : ∀ p, q = some p → p < 8) : (sn_spot q <<< (nI 1 &&& 31)) ||| (sn_spot q >>> (nI 1 &&& 31)) = nI (sBs q) := by
  cases q with
  | none => decide
  | some p => exact sn_bs p (by have := h p rfl; omega)
/-- PLACES right beside those that one hurts -/
def sNear (V : sVal) (pl : Nat → Option Nat) (s : Nat) : Nat → Nat
  | 0 => 0
  | n + 1 => bif (vFo V s).testBit n then sNear V pl s n ||| sBs (pl n) else sNear V pl s n
theorem sNear_lt {V : sVal} {pl : Nat → Option Nat} (s : Nat) (h : ∀ o, o < 6 → ∀ p, pl o = some p → p < 8) : ∀ n, n ≤ 6 → sNear V pl s n < 512
  | 0, _ => by simp [sNear]
  | n + 1, hn => by
    have ih := sNear_lt (V := V) s h n (by omega)
    unfold sNear
    cases (vFo V s).testBit n with
    | false => exact ih
    | true => exact Nat.or_lt_two_pow (n := 9) ih (sBs_lt (h n (by omega)))
/-- PLACES taken -/
def sTk (pl : Nat → Option Nat) : Nat := sn_or6 (fun s => sn_sp (pl s)) 6
theorem sn_or6_tb (f : Nat → Nat) (i : Nat) : ∀ n, (sn_or6 f n).testBit i = true ↔ ∃ s, s < n ∧ (f s).testBit i = true
  | 0 => by simp [sn_or6]
  | n + 1 => by
    unfold sn_or6
    rw [Nat.testBit_or, Bool.or_eq_true, sn_or6_tb f i n]
    constructor
    · rintro (⟨s, h1, h2⟩ | h)
      · exact ⟨s, by omega, h2⟩
      · exact ⟨n, by omega, h⟩
    · rintro ⟨s, h1, h2⟩
      rcases Nat.lt_or_ge s n with z | z
      · exact Or.inl ⟨s, z, h2⟩
      · rw [show s = n by omega] at h2; exact Or.inr h2
theorem sn_sp_tb (q : Option Nat) (i : Nat) : (sn_sp q).testBit i = true ↔ q = some i := by
  cases q with
  | none => simp [sn_sp]
  | some p => simp [sn_sp, Nat.testBit_two_pow]
theorem sTk_tb (pl : Nat → Option Nat) (i : Nat) : (sTk pl).testBit i = true ↔ ∃ s, s < 6 ∧ pl s = some i := by
  unfold sTk
  rw [sn_or6_tb]
  constructor
  · rintro ⟨s, h1, h2⟩; exact ⟨s, h1, (sn_sp_tb _ _).mp h2⟩
  · rintro ⟨s, h1, h2⟩; exact ⟨s, h1, (sn_sp_tb _ _).mpr h2⟩
theorem sn_or6_lt {f : Nat → Nat} {k : Nat} : ∀ n, (∀ s, s < n → f s < 2 ^ k) → sn_or6 f n < 2 ^ k
  | 0, _ => Nat.two_pow_pos k
  | n + 1, h => Nat.or_lt_two_pow (sn_or6_lt n fun s hs => h s (by omega)) (h n (by omega))
theorem sTk_lt {pl : Nat → Option Nat} (h : ∀ o, o < 6 → ∀ p, pl o = some p → p < 8) : sTk pl < 256 := by
  refine sn_or6_lt (k := 8) 6 fun s hs => ?_
  cases hq : pl s with
  | none => show 0 < 256; decide
  | some p => exact Nat.pow_lt_pow_right (by decide) (h s hs p hq)
/-- one MAY be set there -/
def sMay (V : sVal) (pl : Nat → Option Nat) (s p : Nat) : Bool := !(sTk pl).testBit p && !(sNear V pl s (vN V)).testBit p
def sOpen (V : sVal) (pl : Nat → Option Nat) (s : Nat) : Nat := sBits (sMay V pl s) (vP V)
def sPl8 (pl : Nat → Option Nat) : Prop := ∀ o, o < 6 → ∀ p, pl o = some p → p < 8
theorem sI_8 {V : sVal} {st : Nat → Nat} {pl : Nat → Option Nat} (hO : vOk V) (hI : sI (vN V) (vP V) st pl) : sPl8 pl := fun o ho p hp => Nat.lt_of_lt_of_le ((hI o ho).2.2.1 p hp) hO.1.2.1
theorem s_nearL (d : Nat) (n a s : Nat) {V : sVal} {pl : Nat → Option Nat} {μ : am_M2} (ν : am_N2) (hs : s < vN V) (hV : xVal μ V) (hO : vOk V) {f : Nat → Option Nat} (hS : am_S0 n a = some (.inl (.int, true, 6, f))) (hg : ∀ k, k < 6 → μ a k = sn_spot (pl k)) (h8 : sPl8 pl) : ∀ (m j : Nat) , j + m = vN V → am_w (d + 1) (Option.some FieldType.int) am_g78 5 [some (.ref 5), some (.int (nI s)), some (.ref a), some (.int (nI (sNear V pl s j))), some (.int (nI j))] [] (am_hp n μ ν) (fun y => y = (some (.int (nI (sNear V pl s (vN V)))), am_hp n μ ν)) := by
  intro m
  induction m with
  | zero =>
    intro j  hj
    have h6 := hO.1.1
    refine am_q_iload rfl rfl ?_
    refine am_q_aload_n rfl rfl ?_
    refine am_q_gi rfl rfl rfl hV.1.1 ?_
    refine am_q_icmp_ge rfl (fun c_11 => ?_) (fun c_11 => absurd (nI_le (by omega) (by omega)) c_11)
    refine am_q_iload_n rfl rfl ?_
    refine am_q_ireturn rfl rfl rfl ?_
    have e : vN V = j := by omega
    rw [← e]
  | succ m ih =>
    intro j  hj
    have h6 := hO.1.1
    refine am_q_iload rfl rfl ?_
    refine am_q_aload_n rfl rfl ?_
    refine am_q_gi rfl rfl rfl hV.1.1 ?_
    refine am_q_icmp_ge rfl (fun c_11 => absurd c_11 (nI_ge (by omega) (by omega))) (fun c_11 => ?_)
    refine am_q_aload_n rfl rfl ?_
    refine am_q_gr rfl rfl rfl ?_
    refine am_q_iload_n rfl rfl ?_
    refine am_q_iald rfl rfl (by first | exact am_ix_nI (by omega) (by omega) | rfl) (hV.2.2.2.1 s hs).2.2.2.2 ?_
    refine am_q_iload rfl rfl ?_
    refine am_q_call rfl rfl (s_hasN d _ j (Nat.lt_of_lt_of_le (vFo_lt hO hs) (by decide)) (by omega) _) rfl ?_
    refine am_q_if_eqB rfl (fun c_25 => ?_) (fun c_25 => ?_)
    · have e : sNear V pl s (j + 1) = sNear V pl s j := by simp [sNear, c_25]
      refine am_q_iinc [some _, some _, some _, some _, some _] rfl (c := nI 1) rfl rfl (Nat.le_of_ble_eq_true rfl) (nI_add _ _) rfl ?_
      refine am_q_goto rfl ?_
      rw [← e]
      exact ih (j + 1) (by omega)
    · have e : sNear V pl s (j + 1) = sNear V pl s j ||| sBs (pl j) := by simp [sNear, c_25]
      refine am_q_iload_n rfl rfl ?_
      refine am_q_aload_n rfl rfl ?_
      refine am_q_iload rfl rfl ?_
      refine am_q_iald rfl hS (am_ix_nI (by omega) (by omega)) (hg j (by omega)) ?_
      refine am_q_call rfl rfl (s_besideSpot d _ _) rfl ?_
      rw [sn_bsq (h8 j (by omega))]
      refine am_q_ior rfl ((sn_or _ _).trans (by rw [← e])) ?_
      refine am_q_istore_n [some _, some _, some _, some _, some _] rfl (Nat.le_of_ble_eq_true rfl) rfl ?_
      refine am_q_iinc [some _, some _, some _, some _, some _] rfl (c := nI 1) rfl rfl (Nat.le_of_ble_eq_true rfl) (nI_add _ _) rfl ?_
      refine am_q_goto rfl ?_
      exact ih (j + 1) (by omega)

/-- StoneSecrets$Valley.nearFoes(I[I)I -/
theorem s_nearFoes (d : Nat) (n a s : Nat) {V : sVal} {pl : Nat → Option Nat} {μ : am_M2} (ν : am_N2) (hs : s < vN V) (hV : xVal μ V) (hO : vOk V) {f : Nat → Option Nat} (hS : am_S0 n a = some (.inl (.int, true, 6, f))) (hg : ∀ k, k < 6 → μ a k = sn_spot (pl k)) (h8 : sPl8 pl) : am_run (d + 2) 78 [.ref 5, .int (nI s), .ref a] (am_hp n μ ν) = some (some (.int (nI (sNear V pl s (vN V)))), am_hp n μ ν) := by
  refine am_r78 (d := d + 1) (Nat.le_of_ble_eq_true rfl) [some (.ref 5), some (.int (nI s)), some (.ref a), none, none] rfl ?_
  refine am_q_iconst (v := nI 0) rfl rfl ?_
  refine am_q_istore_n [some _, some _, some _, some _, none] rfl (Nat.le_of_ble_eq_true rfl) rfl ?_
  refine am_q_iconst (v := nI 0) rfl rfl ?_
  refine am_q_istore [some _, some _, some _, some _, some _] rfl (Nat.le_of_ble_eq_true rfl) rfl ?_
  exact s_nearL d n a s ν hs hV hO hS hg h8 (vN V) 0 (by omega)

theorem sn_open {V : sVal} {pl : Nat → Option Nat} (s : Nat) (hO : vOk V) (h8 : sPl8 pl) : (nI (2 ^ vP V - 1) &&& (nI (sTk pl) ^^^ -1)) &&& (nI (sNear V pl s (vN V)) ^^^ -1) = nI (sOpen V pl s) := by
  have h1 := sTk_lt h8
  have h2 := sNear_lt (V := V) s h8 (vN V) hO.1.1
  rw [sn_andn _ (by omega), sn_andn _ (by omega)]
  congr 1
  apply Nat.eq_of_testBit_eq
  intro i
  have hi : ∀ j, decide (j < vP V) = true → j < 32 := fun j z => by have := hO.1.2.1; have := of_decide_eq_true z; omega
  rw [Nat.testBit_and, Nat.testBit_and, Nat.testBit_two_pow_sub_one, Nat.testBit_two_pow_sub_succ (by omega), Nat.testBit_two_pow_sub_succ (by omega)]
  unfold sOpen
  rw [sBits_tb]
  unfold sMay
  cases hd : decide (i < vP V) with
  | false => simp
  | true => simp [hi i hd]
/-- StoneSecrets$Valley.openTo(I[I)I -/
theorem s_openTo (d : Nat) (n a s : Nat) {V : sVal} {pl : Nat → Option Nat} {μ : am_M2} (ν : am_N2) (hs : s < vN V) (hV : xVal μ V) (hO : vOk V) {f : Nat → Option Nat} (hS : am_S0 n a = some (.inl (.int, true, 6, f))) (hg : ∀ k, k < 6 → μ a k = sn_spot (pl k)) (h8 : sPl8 pl) : am_run (d + 3) 75 [.ref 5, .int (nI s), .ref a] (am_hp n μ ν) = some (some (.int (nI (sOpen V pl s))), am_hp n μ ν) := by
  refine am_r75 (d := d + 2) (Nat.le_of_ble_eq_true rfl) [some (.ref 5), some (.int (nI s)), some (.ref a)] rfl ?_
  refine am_q_aload_n rfl rfl ?_
  refine am_q_call rfl rfl (s_allPlaces (d + 1) n ν hV.1) rfl ?_
  refine am_q_aload_n rfl rfl ?_
  refine am_q_call rfl rfl (s_taken (d + 1) n a (fun s => sn_sp (pl s)) μ ν _ hS (fun k hk => (hg k hk).trans (sn_spot_eq _))) rfl ?_
  refine am_q_iconst (v := -1) rfl rfl ?_
  refine am_q_ixor rfl rfl ?_
  refine am_q_iand rfl rfl ?_
  refine am_q_aload_n rfl rfl ?_
  refine am_q_iload_n rfl rfl ?_
  refine am_q_aload_n rfl rfl ?_
  refine am_q_call rfl rfl (s_nearFoes d n a s ν hs hV hO hS hg h8) rfl ?_
  refine am_q_iconst (v := -1) rfl rfl ?_
  refine am_q_ixor rfl rfl ?_
  refine am_q_iand rfl rfl ?_
  refine am_q_ireturn rfl rfl rfl ?_
  rw [← sn_open s hO h8]; rfl

/-- how many stand right beside a PLACE -/
def sNb (T p : Nat) : Nat := (if T.testBit (p + 1) then 1 else 0) + (if 0 < p ∧ T.testBit (p - 1) then 1 else 0)
theorem sNb_bc : ∀ T, T < 256 → ∀ p, p < 8 → sn_bc ((2 ^ (p + 1) ||| 2 ^ p / 2) &&& T) = sNb T p := by decide +kernel
def sFall (V : sVal) (pl : Nat → Option Nat) (t c : Nat) (s : Nat) : Bool := match pl s with
  | none => false
  | some p => lwV (vL V) (nI (vW V s)) (nI c) (nI (sNb (sTk pl) p)) (nI t)
theorem s_fbL35 (d : Nat) (n c : Nat) {V : sVal} {st : Nat → Nat} {pl : Nat → Option Nat} {t : Nat} {μ : am_M2} (ν : am_N2) (hV : xVal μ V) (hO : vOk V) (hW : xW μ 35 st pl t) (hI : sI (vN V) (vP V) st pl) : ∀ (m j : Nat) (g : Nat → Int32) (o5 : Option Value), j + m = vN V → am_w (d + 3) (Option.some FieldType.int) am_g86 13 [some (.ref 35), some (.int (nI c)), some (.int (nI (sTk pl))), some (.int (nI (sBits (sFall V pl t c) j))), some (.int (nI j)), o5] [] (am_hp n (am_rw μ 15 g) ν) (fun y => ∃ g, y = (some (.int (nI (sBits (sFall V pl t c) (vN V)))), am_hp n (am_rw μ 15 g) ν)) := by
  intro m
  induction m with
  | zero =>
    intro j g o5 hj
    have h6 := hO.1.1
    refine am_q_iload rfl rfl ?_
    refine am_q_aload_n rfl rfl ?_
    refine am_q_gr rfl rfl rfl ?_
    refine am_q_gi rfl rfl rfl hV.1.1 ?_
    refine am_q_icmp_ge rfl (fun c_22 => ?_) (fun c_22 => absurd (nI_le (by omega) (by omega)) c_22)
    refine am_q_iload_n rfl rfl ?_
    refine am_q_ireturn rfl rfl rfl ?_
    have e : vN V = j := by omega
    rw [← e]
    exact ⟨g, rfl⟩
  | succ m ih =>
    intro j g o5 hj
    have h6 := hO.1.1
    have h8 := sI_8 hO hI
    refine am_q_iload rfl rfl ?_
    refine am_q_aload_n rfl rfl ?_
    refine am_q_gr rfl rfl rfl ?_
    refine am_q_gi rfl rfl rfl hV.1.1 ?_
    refine am_q_icmp_ge rfl (fun c_22 => absurd c_22 (nI_ge (by omega) (by omega))) (fun c_22 => ?_)
    refine am_q_aload_n rfl rfl ?_
    refine am_q_gr rfl rfl rfl ?_
    refine am_q_iload rfl rfl ?_
    refine am_q_iald rfl rfl (by first | exact am_ix_nI (by omega) (by omega) | rfl) (hW.2.1 j (by omega)) ?_
    refine am_q_call rfl rfl (s_besideSpot (d + 2) _ _) rfl ?_
    rw [sn_bsq (h8 j (by omega))]
    refine am_q_iload_n rfl rfl ?_
    refine am_q_iand rfl (sn_and _ _) ?_
    refine am_q_call rfl rfl (s_bitCount (d + 2) _ (Nat.lt_of_le_of_lt Nat.and_le_left (Nat.lt_trans (sBs_lt (h8 j (by omega))) (by decide))) _) rfl ?_
    refine am_q_istore [some _, some _, some _, some _, some _, some _] rfl (Nat.le_of_ble_eq_true rfl) rfl ?_
    refine am_q_aload_n rfl rfl ?_
    refine am_q_gr rfl rfl rfl ?_
    refine am_q_iload rfl rfl ?_
    refine am_q_iald rfl rfl (by first | exact am_ix_nI (by omega) (by omega) | rfl) (hW.2.1 j (by omega)) ?_
    refine am_q_if_eq rfl (fun c_49 => ?_) (fun c_49 => ?_)
    · have hpn : pl j = none := by (cases hq : pl j with | none => rfl | some q => rw [hq] at c_49; exact absurd c_49 (sn_po q (by have := h8 j (by omega) q hq; omega)).1)
      have e : sBits (sFall V pl t c) (j + 1) = sBits (sFall V pl t c) j := by simp [sBits, sFall, hpn]
      refine am_q_iinc [some _, some _, some _, some _, some _, some _] rfl (c := nI 1) rfl rfl (Nat.le_of_ble_eq_true rfl) (nI_add _ _) rfl ?_
      refine am_q_goto rfl ?_
      rw [← e]
      exact ih (j + 1) _ _ (by omega)
    · obtain ⟨q, hq⟩ : ∃ q, pl j = some q := by (cases hq : pl j with | none => rw [hq] at c_49; exact absurd rfl c_49 | some q => exact ⟨q, rfl⟩)
      rw [hq]
      rw [show sn_bc (sBs (some q) &&& sTk pl) = sNb (sTk pl) q from sNb_bc _ (sTk_lt h8) q (h8 j (by omega) q hq)]
      obtain ⟨g2, hdr⟩ := s_drops (d := d) n j (by omega) (nI (vW V j)) (nI c) (nI (sNb (sTk pl) q)) (nI t) (μ := am_rw μ 15 g) ν (hV.2.2.2.1 j (by omega)).2.2.2.1 (hV.2.2.2.2.2 (by omega)) hO.1.2.2.2
      rw [am_rw_rw] at hdr
      refine am_q_aload_n rfl rfl ?_
      refine am_q_gr rfl rfl rfl ?_
      refine am_q_iload rfl rfl ?_
      refine am_q_iload_n rfl rfl ?_
      refine am_q_iload rfl rfl ?_
      refine am_q_aload_n rfl rfl ?_
      refine am_q_gi rfl rfl rfl hW.2.2 ?_
      refine am_q_call rfl rfl (hdr) rfl ?_
      refine am_q_if_eqB rfl (fun c_68 => ?_) (fun c_68 => ?_)
      · have e : sBits (sFall V pl t c) (j + 1) = sBits (sFall V pl t c) j := by simp [sBits, sFall, hq, c_68]
        refine am_q_iinc [some _, some _, some _, some _, some _, some _] rfl (c := nI 1) rfl rfl (Nat.le_of_ble_eq_true rfl) (nI_add _ _) rfl ?_
        refine am_q_goto rfl ?_
        rw [← e]
        exact ih (j + 1) _ _ (by omega)
      · have e : sBits (sFall V pl t c) (j + 1) = sBits (sFall V pl t c) j ||| 2 ^ j := by simp [sBits, sFall, hq, c_68]
        refine am_q_iload_n rfl rfl ?_
        refine am_q_iconst (v := nI 1) rfl rfl ?_
        refine am_q_iload rfl rfl ?_
        refine am_q_ishl rfl (sn_shl1 (by omega)) ?_
        refine am_q_ior rfl ((sn_or _ _).trans (by rw [← e])) ?_
        refine am_q_istore_n [some _, some _, some _, some _, some _, some _] rfl (Nat.le_of_ble_eq_true rfl) rfl ?_
        refine am_q_iinc [some _, some _, some _, some _, some _, some _] rfl (c := nI 1) rfl rfl (Nat.le_of_ble_eq_true rfl) (nI_add _ _) rfl ?_
        refine am_q_goto rfl ?_
        exact ih (j + 1) _ _ (by omega)

theorem s_fallingBy35 (d : Nat) (n c : Nat) {V : sVal} {st : Nat → Nat} {pl : Nat → Option Nat} {t : Nat} {μ : am_M2} (ν : am_N2) (hV : xVal μ V) (hO : vOk V) (hW : xW μ 35 st pl t) (hI : sI (vN V) (vP V) st pl) : ∃ g, am_run (d + 4) 86 [.ref 35, .int (nI c)] (am_hp n μ ν) = some (some (.int (nI (sBits (sFall V pl t c) (vN V)))), am_hp n (am_rw μ 15 g) ν) := by
  have key : ∃ r, am_run (d + 4) 86 [.ref 35, .int (nI c)] (am_hp n μ ν) = some r ∧ ∃ g, r = (some (.int (nI (sBits (sFall V pl t c) (vN V)))), am_hp n (am_rw μ 15 g) ν) := am_run_wE (k := 86) (d := d + 3) rfl rfl (Nat.le_of_ble_eq_true rfl) [some (.ref 35), some (.int (nI c)), none, none, none, none] rfl (by
    refine am_q_aload_n rfl rfl ?_
    refine am_q_gr rfl rfl rfl ?_
    refine am_q_call rfl rfl (s_taken _ n 37 (fun s => sn_sp (pl s)) μ ν _ rfl (fun k hk => (hW.2.1 k hk).trans (sn_spot_eq _))) rfl ?_
    refine am_q_istore_n [some _, some _, some _, none, none, none] rfl (Nat.le_of_ble_eq_true rfl) rfl ?_
    refine am_q_iconst (v := nI 0) rfl rfl ?_
    refine am_q_istore_n [some _, some _, some _, some _, none, none] rfl (Nat.le_of_ble_eq_true rfl) rfl ?_
    refine am_q_iconst (v := nI 0) rfl rfl ?_
    refine am_q_istore [some _, some _, some _, some _, some _, none] rfl (Nat.le_of_ble_eq_true rfl) rfl ?_
    have e := s_fbL35 d n c ν hV hO hW hI (vN V) 0 (μ 15) none (by omega)
    rw [am_rw_self] at e
    exact e)
  obtain ⟨r, h1, g, h2⟩ := key
  exact ⟨g, by rw [h1, h2]⟩
theorem s_fbL38 (d : Nat) (n c : Nat) {V : sVal} {st : Nat → Nat} {pl : Nat → Option Nat} {t : Nat} {μ : am_M2} (ν : am_N2) (hV : xVal μ V) (hO : vOk V) (hW : xW μ 38 st pl t) (hI : sI (vN V) (vP V) st pl) : ∀ (m j : Nat) (g : Nat → Int32) (o5 : Option Value), j + m = vN V → am_w (d + 3) (Option.some FieldType.int) am_g86 13 [some (.ref 38), some (.int (nI c)), some (.int (nI (sTk pl))), some (.int (nI (sBits (sFall V pl t c) j))), some (.int (nI j)), o5] [] (am_hp n (am_rw μ 15 g) ν) (fun y => ∃ g, y = (some (.int (nI (sBits (sFall V pl t c) (vN V)))), am_hp n (am_rw μ 15 g) ν)) := by
  intro m
  induction m with
  | zero =>
    intro j g o5 hj
    have h6 := hO.1.1
    refine am_q_iload rfl rfl ?_
    refine am_q_aload_n rfl rfl ?_
    refine am_q_gr rfl rfl rfl ?_
    refine am_q_gi rfl rfl rfl hV.1.1 ?_
    refine am_q_icmp_ge rfl (fun c_22 => ?_) (fun c_22 => absurd (nI_le (by omega) (by omega)) c_22)
    refine am_q_iload_n rfl rfl ?_
    refine am_q_ireturn rfl rfl rfl ?_
    have e : vN V = j := by omega
    rw [← e]
    exact ⟨g, rfl⟩
  | succ m ih =>
    intro j g o5 hj
    have h6 := hO.1.1
    have h8 := sI_8 hO hI
    refine am_q_iload rfl rfl ?_
    refine am_q_aload_n rfl rfl ?_
    refine am_q_gr rfl rfl rfl ?_
    refine am_q_gi rfl rfl rfl hV.1.1 ?_
    refine am_q_icmp_ge rfl (fun c_22 => absurd c_22 (nI_ge (by omega) (by omega))) (fun c_22 => ?_)
    refine am_q_aload_n rfl rfl ?_
    refine am_q_gr rfl rfl rfl ?_
    refine am_q_iload rfl rfl ?_
    refine am_q_iald rfl rfl (by first | exact am_ix_nI (by omega) (by omega) | rfl) (hW.2.1 j (by omega)) ?_
    refine am_q_call rfl rfl (s_besideSpot (d + 2) _ _) rfl ?_
    rw [sn_bsq (h8 j (by omega))]
    refine am_q_iload_n rfl rfl ?_
    refine am_q_iand rfl (sn_and _ _) ?_
    refine am_q_call rfl rfl (s_bitCount (d + 2) _ (Nat.lt_of_le_of_lt Nat.and_le_left (Nat.lt_trans (sBs_lt (h8 j (by omega))) (by decide))) _) rfl ?_
    refine am_q_istore [some _, some _, some _, some _, some _, some _] rfl (Nat.le_of_ble_eq_true rfl) rfl ?_
    refine am_q_aload_n rfl rfl ?_
    refine am_q_gr rfl rfl rfl ?_
    refine am_q_iload rfl rfl ?_
    refine am_q_iald rfl rfl (by first | exact am_ix_nI (by omega) (by omega) | rfl) (hW.2.1 j (by omega)) ?_
    refine am_q_if_eq rfl (fun c_49 => ?_) (fun c_49 => ?_)
    · have hpn : pl j = none := by (cases hq : pl j with | none => rfl | some q => rw [hq] at c_49; exact absurd c_49 (sn_po q (by have := h8 j (by omega) q hq; omega)).1)
      have e : sBits (sFall V pl t c) (j + 1) = sBits (sFall V pl t c) j := by simp [sBits, sFall, hpn]
      refine am_q_iinc [some _, some _, some _, some _, some _, some _] rfl (c := nI 1) rfl rfl (Nat.le_of_ble_eq_true rfl) (nI_add _ _) rfl ?_
      refine am_q_goto rfl ?_
      rw [← e]
      exact ih (j + 1) _ _ (by omega)
    · obtain ⟨q, hq⟩ : ∃ q, pl j = some q := by (cases hq : pl j with | none => rw [hq] at c_49; exact absurd rfl c_49 | some q => exact ⟨q, rfl⟩)
      rw [hq]
      rw [show sn_bc (sBs (some q) &&& sTk pl) = sNb (sTk pl) q from sNb_bc _ (sTk_lt h8) q (h8 j (by omega) q hq)]
      obtain ⟨g2, hdr⟩ := s_drops (d := d) n j (by omega) (nI (vW V j)) (nI c) (nI (sNb (sTk pl) q)) (nI t) (μ := am_rw μ 15 g) ν (hV.2.2.2.1 j (by omega)).2.2.2.1 (hV.2.2.2.2.2 (by omega)) hO.1.2.2.2
      rw [am_rw_rw] at hdr
      refine am_q_aload_n rfl rfl ?_
      refine am_q_gr rfl rfl rfl ?_
      refine am_q_iload rfl rfl ?_
      refine am_q_iload_n rfl rfl ?_
      refine am_q_iload rfl rfl ?_
      refine am_q_aload_n rfl rfl ?_
      refine am_q_gi rfl rfl rfl hW.2.2 ?_
      refine am_q_call rfl rfl (hdr) rfl ?_
      refine am_q_if_eqB rfl (fun c_68 => ?_) (fun c_68 => ?_)
      · have e : sBits (sFall V pl t c) (j + 1) = sBits (sFall V pl t c) j := by simp [sBits, sFall, hq, c_68]
        refine am_q_iinc [some _, some _, some _, some _, some _, some _] rfl (c := nI 1) rfl rfl (Nat.le_of_ble_eq_true rfl) (nI_add _ _) rfl ?_
        refine am_q_goto rfl ?_
        rw [← e]
        exact ih (j + 1) _ _ (by omega)
      · have e : sBits (sFall V pl t c) (j + 1) = sBits (sFall V pl t c) j ||| 2 ^ j := by simp [sBits, sFall, hq, c_68]
        refine am_q_iload_n rfl rfl ?_
        refine am_q_iconst (v := nI 1) rfl rfl ?_
        refine am_q_iload rfl rfl ?_
        refine am_q_ishl rfl (sn_shl1 (by omega)) ?_
        refine am_q_ior rfl ((sn_or _ _).trans (by rw [← e])) ?_
        refine am_q_istore_n [some _, some _, some _, some _, some _, some _] rfl (Nat.le_of_ble_eq_true rfl) rfl ?_
        refine am_q_iinc [some _, some _, some _, some _, some _, some _] rfl (c := nI 1) rfl rfl (Nat.le_of_ble_eq_true rfl) (nI_add _ _) rfl ?_
        refine am_q_goto rfl ?_
        exact ih (j + 1) _ _ (by omega)

theorem s_fallingBy38 (d : Nat) (n c : Nat) {V : sVal} {st : Nat → Nat} {pl : Nat → Option Nat} {t : Nat} {μ : am_M2} (ν : am_N2) (hV : xVal μ V) (hO : vOk V) (hW : xW μ 38 st pl t) (hI : sI (vN V) (vP V) st pl) : ∃ g, am_run (d + 4) 86 [.ref 38, .int (nI c)] (am_hp n μ ν) = some (some (.int (nI (sBits (sFall V pl t c) (vN V)))), am_hp n (am_rw μ 15 g) ν) := by
  have key : ∃ r, am_run (d + 4) 86 [.ref 38, .int (nI c)] (am_hp n μ ν) = some r ∧ ∃ g, r = (some (.int (nI (sBits (sFall V pl t c) (vN V)))), am_hp n (am_rw μ 15 g) ν) := am_run_wE (k := 86) (d := d + 3) rfl rfl (Nat.le_of_ble_eq_true rfl) [some (.ref 38), some (.int (nI c)), none, none, none, none] rfl (by
    refine am_q_aload_n rfl rfl ?_
    refine am_q_gr rfl rfl rfl ?_
    refine am_q_call rfl rfl (s_taken _ n 40 (fun s => sn_sp (pl s)) μ ν _ rfl (fun k hk => (hW.2.1 k hk).trans (sn_spot_eq _))) rfl ?_
    refine am_q_istore_n [some _, some _, some _, none, none, none] rfl (Nat.le_of_ble_eq_true rfl) rfl ?_
    refine am_q_iconst (v := nI 0) rfl rfl ?_
    refine am_q_istore_n [some _, some _, some _, some _, none, none] rfl (Nat.le_of_ble_eq_true rfl) rfl ?_
    refine am_q_iconst (v := nI 0) rfl rfl ?_
    refine am_q_istore [some _, some _, some _, some _, some _, none] rfl (Nat.le_of_ble_eq_true rfl) rfl ?_
    have e := s_fbL38 d n c ν hV hO hW hI (vN V) 0 (μ 15) none (by omega)
    rw [am_rw_self] at e
    exact e)
  obtain ⟨r, h1, g, h2⟩ := key
  exact ⟨g, by rw [h1, h2]⟩