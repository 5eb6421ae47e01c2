/-- bits of those that are so, below n -/
def sBits (f : Nat → Bool) : Nat → Nat
  | 0 => 0
  | n + 1 => bif f n then sBits f n ||| 2 ^ n else sBits f n
theorem sBits_lt (f : Nat → Bool) : ∀ n, sBits f n < 2 ^ n
  | 0 => by simp [sBits]
  | n + 1 => by
    have ih := sBits_lt f n
    have e : 2 ^ (n + 1) = 2 ^ n + 2 ^ n := by rw [Nat.pow_succ]; omega
    unfold sBits
    cases f n with
    | false => show sBits f n < _; omega
    | true => exact Nat.or_lt_two_pow (by omega) (by omega)
theorem sBits_tb (f : Nat → Bool) : ∀ n i, (sBits f n).testBit i = (decide (i < n) && f i)
  | 0, i => by simp [sBits]
  | n + 1, i => by
    have ih := sBits_tb f n i
    unfold sBits
    by_cases h : i = n
    · subst h
      have h2 : (sBits f i).testBit i = false := Nat.testBit_lt_two_pow (sBits_lt f i)
      cases hf : f i with
      | false => simp [h2]
      | true => simp [Nat.testBit_or, Nat.testBit_two_pow]
    · have e : decide (i < n + 1) = decide (i < n) := by
        by_cases z : i < n
        · simp [z]; omega
        · simp [z]; omega
      cases hf : f n with
      | false => simp only [cond_false]; rw [ih, e]
      | true => simp only [cond_true, Nat.testBit_or, Nat.testBit_two_pow]; rw [ih, e]; simp [Ne.symm h]
theorem sBits_cong {f g : Nat → Bool} : ∀ n, (∀ k, k < n → f k = g k) → sBits f n = sBits g n
  | 0, _ => rfl
  | n + 1, h => by unfold sBits; rw [h n (by omega), sBits_cong n (fun k hk => h k (by omega))]
theorem sn_64 {f : Nat → Bool} {n : Nat} (h : n ≤ 6) : sBits f n < 64 := Nat.lt_of_lt_of_le (sBits_lt f n) (Nat.pow_le_pow_right (by decide) h)
/-- a row of ints in place of another -/
def am_rw (μ : am_M2) (a : Nat) (g : Nat → Int32) : am_M2 := fun i k => if i = a then g k else μ i k
theorem am_rw_rw (μ : am_M2) (a : Nat) (g g' : Nat → Int32) : am_rw (am_rw μ a g) a g' = am_rw μ a g' := by
  funext i k; unfold am_rw; by_cases h : i = a <;> simp [h]
theorem am_rw_self (μ : am_M2) (a : Nat) : am_rw μ a (μ a) = μ := by
  funext i k; unfold am_rw; by_cases h : i = a <;> simp [h]
theorem am_rw_up (μ : am_M2) (a j : Nat) (g : Nat → Int32) (v : Int32) : am_up (am_rw μ a g) a j v = am_rw μ a (upd g j v) := by
  funext i k; unfold am_rw am_up upd; by_cases h : i = a <;> simp [h]
theorem am_rw_0 (μ : am_M2) (a j : Nat) (v : Int32) : am_up μ a j v = am_rw μ a (upd (μ a) j v) := by
  funext i k; unfold am_rw am_up upd; by_cases h : i = a <;> simp [h]
/-- StoneSecrets$Wall.isLoose(I)Z -/
theorem s_isLoose35 (d : Nat) (s : Int32) (n : Nat) {N P t : Nat} {st : Nat → Nat} {pl : Nat → Option Nat} {μ : am_M2} (ν : am_N2) (hV : xV μ N P) (hW : xW μ 35 st pl t) (hI : sI N P st pl) : am_run (d + 3) 74 [.ref 35, .int s] (am_hp n μ ν) = some (some (.int (sB (sIs N st s 1 || sIs N st s 3))), am_hp n μ ν) := by
  refine am_r74 (d := d + 2) (Nat.le_of_ble_eq_true rfl) [some (.ref 35), some (.int s)] rfl ?_
  refine am_q_aload_n rfl rfl ?_
  refine am_q_iload_n rfl rfl ?_
  refine am_q_iconst (v := nI 1) rfl rfl ?_
  refine am_q_call rfl rfl (s_is35 d s 1 (by omega) n ν hV hW hI) rfl ?_
  refine am_q_if_neB rfl (fun c_6 => ?_) (fun c_6 => ?_)
  · refine am_q_iconst (v := nI 1) rfl rfl ?_
    refine am_q_goto rfl ?_
    refine am_q_ireturn rfl rfl rfl ?_
    simp [*, sB]
  · refine am_q_aload_n rfl rfl ?_
    refine am_q_iload_n rfl rfl ?_
    refine am_q_iconst (v := nI 3) rfl rfl ?_
    refine am_q_call rfl rfl (s_is35 d s 3 (by omega) n ν hV hW hI) rfl ?_
    refine am_q_if_eqB rfl (fun c_15 => ?_) (fun c_15 => ?_)
    · refine am_q_iconst (v := nI 0) rfl rfl ?_
      refine am_q_ireturn rfl rfl rfl ?_
      simp [*, sB]
    · refine am_q_iconst (v := nI 1) rfl rfl ?_
      refine am_q_goto rfl ?_
      refine am_q_ireturn rfl rfl rfl ?_
      simp [*, sB]

/-- StoneSecrets$Wall.isStone(I)Z -/
theorem s_isStone35 (d : Nat) (s : Int32) (n : Nat) {N P t : Nat} {st : Nat → Nat} {pl : Nat → Option Nat} {μ : am_M2} (ν : am_N2) (hV : xV μ N P) (hW : xW μ 35 st pl t) (hI : sI N P st pl) : am_run (d + 4) 122 [.ref 35, .int s] (am_hp n μ ν) = some (some (.int (sB (sIs N st s 1 || sIs N st s 3 || sIs N st s 2))), am_hp n μ ν) := by
  refine am_r122 (d := d + 3) (Nat.le_of_ble_eq_true rfl) [some (.ref 35), some (.int s)] rfl ?_
  refine am_q_aload_n rfl rfl ?_
  refine am_q_iload_n rfl rfl ?_
  refine am_q_call rfl rfl (s_isLoose35 d s n ν hV hW hI) rfl ?_
  refine am_q_if_neB rfl (fun c_5 => ?_) (fun c_5 => ?_)
  · refine am_q_iconst (v := nI 1) rfl rfl ?_
    refine am_q_goto rfl ?_
    refine am_q_ireturn rfl rfl rfl ?_
    cases h1 : sIs N st s 1 <;> cases h2 : sIs N st s 3 <;> cases h3 : sIs N st s 2 <;> simp_all [sB]
  · refine am_q_aload_n rfl rfl ?_
    refine am_q_iload_n rfl rfl ?_
    refine am_q_iconst (v := nI 2) rfl rfl ?_
    refine am_q_call rfl rfl (s_is35 (d + 1) s 2 (by omega) n ν hV hW hI) rfl ?_
    refine am_q_if_eqB rfl (fun c_14 => ?_) (fun c_14 => ?_)
    · refine am_q_iconst (v := nI 0) rfl rfl ?_
      refine am_q_ireturn rfl rfl rfl ?_
      cases h1 : sIs N st s 1 <;> cases h2 : sIs N st s 3 <;> cases h3 : sIs N st s 2 <;> simp_all [sB]
    · refine am_q_iconst (v := nI 1) rfl rfl ?_
      refine am_q_goto rfl ?_
      refine am_q_ireturn rfl rfl rfl ?_
      cases h1 : sIs N st s 1 <;> cases h2 : sIs N st s 3 <;> cases h3 : sIs N st s 2 <;> simp_all [sB]

theorem s_whoL35 (d x : Nat) (hx : x ≤ 4) (n : Nat) {N P t : Nat} {st : Nat → Nat} {pl : Nat → Option Nat} {μ : am_M2} (ν : am_N2) (hV : xV μ N P) (hW : xW μ 35 st pl t) (hI : sI N P st pl) : ∀ (m j : Nat) , j + m = N → am_w (d + 0) (Option.some FieldType.int) am_g99 4 [some (.ref 35), some (.int (nI x)), some (.int (nI (sBits (fun s => decide (st s = x)) j))), some (.int (nI j))] [] (am_hp n μ ν) (fun y => y = (some (.int (nI (sBits (fun s => decide (st s = x)) N))), am_hp n μ ν)) := by
  intro m
  induction m with
  | zero =>
    intro j  hj
    have hN6 := hV.2.1
    refine am_q_iload_n rfl rfl ?_
    refine am_q_aload_n rfl rfl ?_
    refine am_q_gr rfl rfl rfl ?_
    refine am_q_gi rfl rfl rfl hV.1 ?_
    refine am_q_icmp_ge rfl (fun c_12 => ?_) (fun c_12 => absurd (nI_le (by omega) (by omega)) c_12)
    refine am_q_iload_n rfl rfl ?_
    refine am_q_ireturn rfl rfl rfl ?_
    have e : N = j := by omega
    subst e
    rfl
  | succ m ih =>
    intro j  hj
    have hN6 := hV.2.1
    refine am_q_iload_n rfl rfl ?_
    refine am_q_aload_n rfl rfl ?_
    refine am_q_gr rfl rfl rfl ?_
    refine am_q_gi rfl rfl rfl hV.1 ?_
    refine am_q_icmp_ge rfl (fun c_12 => absurd c_12 (nI_ge (by omega) (by omega))) (fun c_12 => ?_)
    refine am_q_aload_n rfl rfl ?_
    refine am_q_gr rfl rfl rfl ?_
    refine am_q_iload_n rfl rfl ?_
    refine am_q_iald rfl rfl (by first | exact am_ix_nI (by omega) (by omega) | rfl) (hW.1 j (by omega)) ?_
    refine am_q_iload_n rfl rfl ?_
    refine am_q_ineN rfl (by have := (hI j (by omega)).1; omega) (by omega) (fun c_22 => ?_) (fun c_22 => ?_)
    · refine am_q_iinc [some _, some _, some _, some _] rfl (c := nI 1) rfl rfl (Nat.le_of_ble_eq_true rfl) (nI_add _ _) rfl ?_
      refine am_q_goto rfl ?_
      have e : sBits (fun s => decide (st s = x)) (j + 1) = sBits (fun s => decide (st s = x)) j := by simp [sBits, c_22]
      rw [← e]
      exact ih (j + 1) (by omega)
    · have e : sBits (fun s => decide (st s = x)) (j + 1) = sBits (fun s => decide (st s = x)) j ||| 2 ^ j := by simp [sBits, c_22]
      refine am_q_iload_n rfl rfl ?_
      refine am_q_iconst (v := nI 1) rfl rfl ?_
      refine am_q_iload_n rfl rfl ?_
      refine am_q_ishl rfl (sn_shl1 (by omega)) ?_
      refine am_q_ior rfl ((sn_or _ _).trans (by rw [← e])) ?_
      refine am_q_istore_n [some _, some _, some _, some _] rfl (Nat.le_of_ble_eq_true rfl) rfl ?_
      refine am_q_iinc [some _, some _, some _, some _] rfl (c := nI 1) rfl rfl (Nat.le_of_ble_eq_true rfl) (nI_add _ _) rfl ?_
      refine am_q_goto rfl ?_
      exact ih (j + 1) (by omega)

/-- StoneSecrets$Wall.who(I)I -/
theorem s_who35 (d : Nat) (x : Nat) (hx : x ≤ 4) (n : Nat) {N P t : Nat} {st : Nat → Nat} {pl : Nat → Option Nat} {μ : am_M2} (ν : am_N2) (hV : xV μ N P) (hW : xW μ 35 st pl t) (hI : sI N P st pl) : am_run (d + 1) 99 [.ref 35, .int (nI x)] (am_hp n μ ν) = some (some (.int (nI (sBits (fun s => decide (st s = x)) N))), am_hp n μ ν) := by
  refine am_r99 (d := d + 0) (Nat.le_of_ble_eq_true rfl) [some (.ref 35), some (.int (nI x)), none, none] rfl ?_
  refine am_q_iconst (v := nI 0) rfl rfl ?_
  refine am_q_istore_n [some _, some _, some _, none] rfl (Nat.le_of_ble_eq_true rfl) rfl ?_
  refine am_q_iconst (v := nI 0) rfl rfl ?_
  refine am_q_istore_n [some _, some _, some _, some _] rfl (Nat.le_of_ble_eq_true rfl) rfl ?_
  exact s_whoL35 d x hx n ν hV hW hI N 0 (by omega)

/-- StoneSecrets$Wall.loose()I -/
theorem s_loose (d : Nat) (n : Nat) {N P t : Nat} {st : Nat → Nat} {pl : Nat → Option Nat} {μ : am_M2} (ν : am_N2) (hV : xV μ N P) (hW : xW μ 35 st pl t) (hI : sI N P st pl) : am_run (d + 2) 117 [.ref 35] (am_hp n μ ν) = some (some (.int (nI (sBits (fun s => decide (st s = 1) || decide (st s = 3)) N))), am_hp n μ ν) := by
  refine am_r117 (d := d + 1) (Nat.le_of_ble_eq_true rfl) [some (.ref 35)] rfl ?_
  refine am_q_aload_n rfl rfl ?_
  refine am_q_iconst (v := nI 1) rfl rfl ?_
  refine am_q_call rfl rfl (s_who35 d 1 (by omega) n ν hV hW hI) rfl ?_
  refine am_q_aload_n rfl rfl ?_
  refine am_q_iconst (v := nI 3) rfl rfl ?_
  refine am_q_call rfl rfl (s_who35 d 3 (by omega) n ν hV hW hI) rfl ?_
  refine am_q_ior rfl (sn_or _ _) ?_
  refine am_q_ireturn rfl rfl rfl ?_
  congr 4
  apply Nat.eq_of_testBit_eq
  intro i
  rw [Nat.testBit_or, sBits_tb, sBits_tb, sBits_tb]
  cases decide (i < N) <;> simp

/-- who stands at a PLACE -/
def sAt (pl : Nat → Option Nat) (p : Nat) : Nat → Option Nat
  | 0 => none
  | n + 1 => match sAt pl p n with
    | some s => some s
    | none => if pl n = some p then some n else none
theorem sn_2inj : ∀ p, p < 8 → ∀ q, q < 8 → nI (2 ^ p) = nI (2 ^ q) → p = q := by decide +kernel
theorem sn_2n0 : ∀ p, p < 8 → ¬ nI 0 = nI (2 ^ p) := by decide +kernel
theorem sn_spot_inj {q : Option Nat} {p : Nat} (hq : ∀ x, q = some x → x < 8) (hp : p < 8) (h : sn_spot q = nI (2 ^ p)) : q = some p := by
  cases q with
  | none => exact absurd h (sn_2n0 p hp)
  | some x => rw [sn_2inj x (hq x rfl) p hp h]
theorem sAt_n {pl : Nat → Option Nat} {p j : Nat} (h : sAt pl p j = none) (hc : ¬ pl j = some p) : sAt pl p (j + 1) = none := by
  unfold sAt; rw [h]; simp [hc]
theorem sAt_s {pl : Nat → Option Nat} {p j : Nat} (h : sAt pl p j = none) (hc : pl j = some p) : sAt pl p (j + 1) = some j := by
  unfold sAt; rw [h]; simp [hc]
theorem sAt_mono (pl : Nat → Option Nat) (p : Nat) {s k n : Nat} (h : sAt pl p k = some s) (hn : k ≤ n) : sAt pl p n = some s := by
  induction n with
  | zero => rw [show k = 0 by omega] at h; exact h
  | succ n ih =>
    rcases Nat.lt_or_ge n k with z | z
    · rw [show n + 1 = k by omega]; exact h
    · unfold sAt; rw [ih z]
theorem s_standingL (d p : Nat) (hp : p < 8) (n : Nat) {N P t : Nat} {st : Nat → Nat} {pl : Nat → Option Nat} {μ : am_M2} (ν : am_N2) (hV : xV μ N P) (hW : xW μ 35 st pl t) (hI : sI N P st pl) : ∀ (m j : Nat) , j + m = N → sAt pl p j = none → am_w (d + 0) (Option.some FieldType.int) am_g69 2 [some (.ref 35), some (.int (nI (2 ^ p))), some (.int (nI j))] [] (am_hp n μ ν) (fun y => y = (some (.int (sn_place (sAt pl p N))), am_hp n μ ν)) := by
  intro m
  induction m with
  | zero =>
    intro j  hj hinv
    have hN6 := hV.2.1
    refine am_q_iload_n rfl rfl ?_
    refine am_q_aload_n rfl rfl ?_
    refine am_q_gr rfl rfl rfl ?_
    refine am_q_gi rfl rfl rfl hV.1 ?_
    refine am_q_icmp_ge rfl (fun c_10 => ?_) (fun c_10 => absurd (nI_le (by omega) (by omega)) c_10)
    refine am_q_iconst (v := -1) rfl rfl ?_
    refine am_q_ireturn rfl rfl rfl ?_
    have e : N = j := by omega
    subst e
    rw [hinv]; rfl
  | succ m ih =>
    intro j  hj hinv
    have hN6 := hV.2.1
    refine am_q_iload_n rfl rfl ?_
    refine am_q_aload_n rfl rfl ?_
    refine am_q_gr rfl rfl rfl ?_
    refine am_q_gi rfl rfl rfl hV.1 ?_
    refine am_q_icmp_ge rfl (fun c_10 => absurd c_10 (nI_ge (by omega) (by omega))) (fun c_10 => ?_)
    refine am_q_aload_n rfl rfl ?_
    refine am_q_gr rfl rfl rfl ?_
    refine am_q_iload_n rfl rfl ?_
    refine am_q_iald rfl rfl (by first | exact am_ix_nI (by omega) (by omega) | rfl) (hW.2.1 j (by omega)) ?_
    refine am_q_iload_n rfl rfl ?_
    refine am_q_icmp_ne rfl (fun c_20 => ?_) (fun c_20 => ?_)
    · have e : sAt pl p (j + 1) = none := sAt_n hinv (fun q => c_20 (by rw [q]; rfl))
      refine am_q_iinc [some _, some _, some _] rfl (c := nI 1) rfl rfl (Nat.le_of_ble_eq_true rfl) (nI_add _ _) rfl ?_
      refine am_q_goto rfl ?_
      exact ih (j + 1) (by omega) e
    · have e : sAt pl p (j + 1) = some j := sAt_s hinv (sn_spot_inj (fun q h => Nat.lt_of_lt_of_le ((hI j (by omega)).2.2.1 q h) hV.2.2.2) hp c_20)
      refine am_q_iload_n rfl rfl ?_
      refine am_q_ireturn rfl rfl rfl ?_
      rw [sAt_mono pl p e (by omega)]; rfl

/-- StoneSecrets$Wall.standing(I)I -/
theorem s_standing (d : Nat) (p : Nat) (hp : p < 8) (n : Nat) {N P t : Nat} {st : Nat → Nat} {pl : Nat → Option Nat} {μ : am_M2} (ν : am_N2) (hV : xV μ N P) (hW : xW μ 35 st pl t) (hI : sI N P st pl) : am_run (d + 1) 69 [.ref 35, .int (nI (2 ^ p))] (am_hp n μ ν) = some (some (.int (sn_place (sAt pl p N))), am_hp n μ ν) := by
  refine am_r69 (d := d + 0) (Nat.le_of_ble_eq_true rfl) [some (.ref 35), some (.int (nI (2 ^ p))), none] rfl ?_
  refine am_q_iconst (v := nI 0) rfl rfl ?_
  refine am_q_istore_n [some _, some _, some _] rfl (Nat.le_of_ble_eq_true rfl) rfl ?_
  exact s_standingL d p hp n ν hV hW hI N 0 (by omega) rfl

/-- StoneSecrets$Wall.isLoose(I)Z -/
theorem s_isLoose38 (d : Nat) (s : Int32) (n : Nat) {N P t : Nat} {st : Nat → Nat} {pl : Nat → Option Nat} {μ : am_M2} (ν : am_N2) (hV : xV μ N P) (hW : xW μ 38 st pl t) (hI : sI N P st pl) : am_run (d + 3) 74 [.ref 38, .int s] (am_hp n μ ν) = some (some (.int (sB (sIs N st s 1 || sIs N st s 3))), am_hp n μ ν) := by
  refine am_r74 (d := d + 2) (Nat.le_of_ble_eq_true rfl) [some (.ref 38), some (.int s)] rfl ?_
  refine am_q_aload_n rfl rfl ?_
  refine am_q_iload_n rfl rfl ?_
  refine am_q_iconst (v := nI 1) rfl rfl ?_
  refine am_q_call rfl rfl (s_is38 d s 1 (by omega) n ν hV hW hI) rfl ?_
  refine am_q_if_neB rfl (fun c_6 => ?_) (fun c_6 => ?_)
  · refine am_q_iconst (v := nI 1) rfl rfl ?_
    refine am_q_goto rfl ?_
    refine am_q_ireturn rfl rfl rfl ?_
    simp [*, sB]
  · refine am_q_aload_n rfl rfl ?_
    refine am_q_iload_n rfl rfl ?_
    refine am_q_iconst (v := nI 3) rfl rfl ?_
    refine am_q_call rfl rfl (s_is38 d s 3 (by omega) n ν hV hW hI) rfl ?_
    refine am_q_if_eqB rfl (fun c_15 => ?_) (fun c_15 => ?_)
    · refine am_q_iconst (v := nI 0) rfl rfl ?_
      refine am_q_ireturn rfl rfl rfl ?_
      simp [*, sB]
    · refine am_q_iconst (v := nI 1) rfl rfl ?_
      refine am_q_goto rfl ?_
      refine am_q_ireturn rfl rfl rfl ?_
      simp [*, sB]

theorem s_whoL38 (d x : Nat) (hx : x ≤ 4) (n : Nat) {N P t : Nat} {st : Nat → Nat} {pl : Nat → Option Nat} {μ : am_M2} (ν : am_N2) (hV : xV μ N P) (hW : xW μ 38 st pl t) (hI : sI N P st pl) : ∀ (m j : Nat) , j + m = N → am_w (d + 0) (Option.some FieldType.int) am_g99 4 [some (.ref 38), some (.int (nI x)), some (.int (nI (sBits (fun s => decide (st s = x)) j))), some (.int (nI j))] [] (am_hp n μ ν) (fun y => y = (some (.int (nI (sBits (fun s => decide (st s = x)) N))), am_hp n μ ν)) := by
  intro m
  induction m with
  | zero =>
    intro j  hj
    have hN6 := hV.2.1
    refine am_q_iload_n rfl rfl ?_
    refine am_q_aload_n rfl rfl ?_
    refine am_q_gr rfl rfl rfl ?_
    refine am_q_gi rfl rfl rfl hV.1 ?_
    refine am_q_icmp_ge rfl (fun c_12 => ?_) (fun c_12 => absurd (nI_le (by omega) (by omega)) c_12)
    refine am_q_iload_n rfl rfl ?_
    refine am_q_ireturn rfl rfl rfl ?_
    have e : N = j := by omega
    subst e
    rfl
  | succ m ih =>
    intro j  hj
    have hN6 := hV.2.1
    refine am_q_iload_n rfl rfl ?_
    refine am_q_aload_n rfl rfl ?_
    refine am_q_gr rfl rfl rfl ?_
    refine am_q_gi rfl rfl rfl hV.1 ?_
    refine am_q_icmp_ge rfl (fun c_12 => absurd c_12 (nI_ge (by omega) (by omega))) (fun c_12 => ?_)
    refine am_q_aload_n rfl rfl ?_
    refine am_q_gr rfl rfl rfl ?_
    refine am_q_iload_n rfl rfl ?_
    refine am_q_iald rfl rfl (by first | exact am_ix_nI (by omega) (by omega) | rfl) (hW.1 j (by omega)) ?_
    refine am_q_iload_n rfl rfl ?_
    refine am_q_ineN rfl (by have := (hI j (by omega)).1; omega) (by omega) (fun c_22 => ?_) (fun c_22 => ?_)
    · refine am_q_iinc [some _, some _, some _, some _] rfl (c := nI 1) rfl rfl (Nat.le_of_ble_eq_true rfl) (nI_add _ _) rfl ?_
      refine am_q_goto rfl ?_
      have e : sBits (fun s => decide (st s = x)) (j + 1) = sBits (fun s => decide (st s = x)) j := by simp [sBits, c_22]
      rw [← e]
      exact ih (j + 1) (by omega)
    · have e : sBits (fun s => decide (st s = x)) (j + 1) = sBits (fun s => decide (st s = x)) j ||| 2 ^ j := by simp [sBits, c_22]
      refine am_q_iload_n rfl rfl ?_
      refine am_q_iconst (v := nI 1) rfl rfl ?_
      refine am_q_iload_n rfl rfl ?_
      refine am_q_ishl rfl (sn_shl1 (by omega)) ?_
      refine am_q_ior rfl ((sn_or _ _).trans (by rw [← e])) ?_
      refine am_q_istore_n [some _, some _, some _, some _] rfl (Nat.le_of_ble_eq_true rfl) rfl ?_
      refine am_q_iinc [some _, some _, some _, some _] rfl (c := nI 1) rfl rfl (Nat.le_of_ble_eq_true rfl) (nI_add _ _) rfl ?_
      refine am_q_goto rfl ?_
      exact ih (j + 1) (by omega)

/-- StoneSecrets$Wall.who(I)I -/
theorem s_who38 (d : Nat) (x : Nat) (hx : x ≤ 4) (n : Nat) {N P t : Nat} {st : Nat → Nat} {pl : Nat → Option Nat} {μ : am_M2} (ν : am_N2) (hV : xV μ N P) (hW : xW μ 38 st pl t) (hI : sI N P st pl) : am_run (d + 1) 99 [.ref 38, .int (nI x)] (am_hp n μ ν) = some (some (.int (nI (sBits (fun s => decide (st s = x)) N))), am_hp n μ ν) := by
  refine am_r99 (d := d + 0) (Nat.le_of_ble_eq_true rfl) [some (.ref 38), some (.int (nI x)), none, none] rfl ?_
  refine am_q_iconst (v := nI 0) rfl rfl ?_
  refine am_q_istore_n [some _, some _, some _, none] rfl (Nat.le_of_ble_eq_true rfl) rfl ?_
  refine am_q_iconst (v := nI 0) rfl rfl ?_
  refine am_q_istore_n [some _, some _, some _, some _] rfl (Nat.le_of_ble_eq_true rfl) rfl ?_
  exact s_whoL38 d x hx n ν hV hW hI N 0 (by omega)
