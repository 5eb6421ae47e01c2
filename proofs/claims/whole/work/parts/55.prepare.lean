/-! ===== what comes ===== -/
/-- whether one falls so many WEEKS ahead, with so many beside it -/
def dr3 (V : sVal) (t s nb a : Nat) : Bool := lwV (vL V) (nI (vW V s)) (nI (vCold V (t + a))) (nI nb) (nI (t + a))
/-- the soonest such, m WEEKS before the end -/
def soo (V : sVal) (t sp s nb : Nat) : Nat → Nat
  | 0 => 61
  | m + 1 => if dr3 V t s nb (sp - (m + 1)) = true then sp - (m + 1) else soo V t sp s nb m
theorem soo_spec {V : sVal} {t sp s nb : Nat} : ∀ m, m ≤ sp → (soo V t sp s nb m = 61 ∧ ∀ a, sp - m ≤ a → a < sp → dr3 V t s nb a = false) ∨ (sp - m ≤ soo V t sp s nb m ∧ soo V t sp s nb m < sp ∧ dr3 V t s nb (soo V t sp s nb m) = true ∧ ∀ a, sp - m ≤ a → a < soo V t sp s nb m → dr3 V t s nb a = false)
  | 0, _ => Or.inl ⟨rfl, fun a h1 h2 => by omega⟩
  | m + 1, hm => by
    rw [soo]
    by_cases h : dr3 V t s nb (sp - (m + 1)) = true
    · rw [if_pos h]
      exact Or.inr ⟨Nat.le_refl _, by omega, h, fun a h1 h2 => by omega⟩
    · rw [if_neg h]
      have hf : dr3 V t s nb (sp - (m + 1)) = false := by cases hq : dr3 V t s nb (sp - (m + 1)) with | true => exact absurd hq h | false => rfl
      rcases soo_spec (V := V) (t := t) (sp := sp) (s := s) (nb := nb) m (by omega) with ⟨h1, h2⟩ | ⟨h1, h2, h3, h4⟩
      · refine Or.inl ⟨h1, fun a a1 a2 => ?_⟩
        by_cases z : a = sp - (m + 1)
        · rw [z]; exact hf
        · exact h2 a (by omega) a2
      · refine Or.inr ⟨by omega, h2, h3, fun a a1 a2 => ?_⟩
        by_cases z : a = sp - (m + 1)
        · rw [z]; exact hf
        · exact h4 a (by omega) a2
theorem soo_s {V : sVal} {t sp s nb a : Nat} (h : a < sp) : soo V t sp s nb (sp - a) = if dr3 V t s nb a = true then a else soo V t sp s nb (sp - (a + 1)) := by
  rw [show sp - a = (sp - (a + 1)) + 1 by omega, soo, show sp - (sp - (a + 1) + 1) = a by omega]
theorem soo_le {V : sVal} {t sp s nb : Nat} (hsp : sp ≤ 60) {m : Nat} (hm : m ≤ sp) : soo V t sp s nb m ≤ 61 := by
  rcases soo_spec (V := V) (t := t) (s := s) (nb := nb) m hm with ⟨h1, _⟩ | ⟨_, h1, _⟩ <;> omega
/-- the table as far as it is filled -/
def tbD (V : sVal) (t sp b k s0 n0 : Nat) (g : Nat → Int32) : Prop := ∀ a s nb, a ≤ sp → s < vN V → b.testBit s = true → nb < 3 → (k ≤ a ∨ (a + 1 = k ∧ (s < s0 ∨ (s = s0 ∧ nb < n0)))) → g (a * 18 + s * 3 + nb) = nI (soo V t sp s nb (sp - a))
/-- StoneSecrets$Future.cellOf(III)I -/
theorem s_cellOf (d : Nat) (a s b : Nat) (h : am_H) : am_run (d + 1) 105 [.int (nI a), .int (nI s), .int (nI b)] (h) = some (some (.int (nI (a * 18 + s * 3 + b))), h) := by
  refine am_r105 (d := d + 0) (Nat.le_of_ble_eq_true rfl) [some (.int (nI a)), some (.int (nI s)), some (.int (nI b))] rfl ?_
  refine am_q_iload_n rfl rfl ?_
  refine am_q_bipush (v := nI 18) rfl rfl ?_
  refine am_q_imul rfl (pk_mul _ _) ?_
  refine am_q_iload_n rfl rfl ?_
  refine am_q_iconst (v := nI 3) rfl rfl ?_
  refine am_q_imul rfl (pk_mul _ _) ?_
  refine am_q_iadd rfl (nI_add _ _) ?_
  refine am_q_iload_n rfl rfl ?_
  refine am_q_iadd rfl (nI_add _ _) ?_
  refine am_q_ireturn rfl rfl rfl ?_
  rfl

theorem rw126 (μ : am_M2) (e g : Nat → Int32) (k : Nat) (v : Int32) : am_up (am_rw (am_rw μ 15 e) 126 g) 126 k v = am_rw (am_rw μ 15 e) 126 (upd g k v) := by rw [am_rw_up]
theorem rw15 (μ : am_M2) (e e2 g : Nat → Int32) : am_rw (am_rw (am_rw μ 15 e) 126 g) 15 e2 = am_rw (am_rw μ 15 e2) 126 g := by
  funext i k; unfold am_rw
  by_cases h : i = 126
  · subst h; rfl
  · by_cases h2 : i = 15
    · subst h2; rfl
    · simp [h, h2]
theorem tbD_nb {V : sVal} {t sp b a s0 n0 : Nat} {g : Nat → Int32} {v : Int32} (hN : vN V ≤ 6) (hs0 : s0 < 6) (hn0 : n0 < 3) (hv : v = nI (soo V t sp s0 n0 (sp - a))) (h : tbD V t sp b (a + 1) s0 n0 g) : tbD V t sp b (a + 1) s0 (n0 + 1) (upd g (a * 18 + s0 * 3 + n0) v) := by
  intro a' s nb h1 h2 h3 h4 h5
  by_cases z : a' * 18 + s * 3 + nb = a * 18 + s0 * 3 + n0
  · have z1 : a' = a := by omega
    have z2 : s = s0 := by omega
    have z3 : nb = n0 := by omega
    rw [z, pk_us, z1, z2, z3]; exact hv
  · rw [pk_un z]
    refine h a' s nb h1 h2 h3 h4 ?_
    rcases h5 with h5 | ⟨h5, h6⟩
    · exact Or.inl h5
    · refine Or.inr ⟨h5, ?_⟩
      have : a' = a := by omega
      subst this
      omega
theorem tbD_s {V : sVal} {t sp b k s0 n0 : Nat} {g : Nat → Int32} (hn : 3 ≤ n0 ∨ b.testBit s0 = false) (h : tbD V t sp b k s0 n0 g) : tbD V t sp b k (s0 + 1) 0 g := by
  intro a s nb h1 h2 h3 h4 h5
  refine h a s nb h1 h2 h3 h4 ?_
  rcases h5 with h5 | ⟨h5, h6⟩
  · exact Or.inl h5
  · refine Or.inr ⟨h5, ?_⟩
    by_cases z : s = s0
    · rcases hn with hn | hn
      · omega
      · rw [z] at h3; rw [hn] at h3; cases h3
    · omega
theorem tbD_a {V : sVal} {t sp b a s0 : Nat} {g : Nat → Int32} (hs : vN V ≤ s0) (h : tbD V t sp b (a + 1) s0 0 g) : tbD V t sp b a 0 0 g := by
  intro a' s nb h1 h2 h3 h4 h5
  refine h a' s nb h1 h2 h3 h4 ?_
  omega
theorem s_prepN (d a s c t sp b n : Nat) {V : sVal} {μ : am_M2} (ν : am_N2) (hV : xVal μ V) (hO : vOk V) (ht : t < 2 ^ 20) (hsp : sp ≤ 60) (hb : b < 64) (hs5 : μ 125 5 = nI sp) (ha : a < sp) (hs : s < vN V) (hc : c = vCold V (t + a)) (Q : am_R → Prop) (K : ∀ e g o7 o8 o9, tbD V t sp b (a + 1) (s + 1) 0 g → am_w (d + 4) (Option.none : Option FieldType) am_g103 169 [some (.ref 125), some (.int (nI t)), some (.int (nI sp)), some (.int (nI b)), some (.int (nI a)), some (.int (nI c)), some (.int (nI s)), o7, o8, o9] [] (am_hp n (am_rw (am_rw μ 15 e) 126 g) ν) Q) : ∀ (m j : Nat) (e : Nat → Int32) (g : Nat → Int32) (o8 : Option Value) (o9 : Option Value), j + m = 3 → tbD V t sp b (a + 1) s j g → am_w (d + 4) (Option.none : Option FieldType) am_g103 91 [some (.ref 125), some (.int (nI t)), some (.int (nI sp)), some (.int (nI b)), some (.int (nI a)), some (.int (nI c)), some (.int (nI s)), some (.int (nI j)), o8, o9] [] (am_hp n (am_rw (am_rw μ 15 e) 126 g) ν) (Q) := by
  intro m
  induction m with
  | zero =>
    intro j e g o8 o9 hj hinv
    have h6 := hO.1.1
    refine am_q_iload rfl rfl ?_
    refine am_q_iconst (v := nI 3) rfl rfl ?_
    refine am_q_igeN rfl (by omega) (by omega) (fun c_94 => ?_) (fun c_94 => absurd c_94 (by omega))
    exact K e g _ _ _ (tbD_s (Or.inl (by omega)) hinv)
  | succ m ih =>
    intro j e g o8 o9 hj hinv
    have h6 := hO.1.1
    obtain ⟨e2, hd⟩ := s_drops (d + 1) n s (by omega) (nI (vW V s)) (nI c) (nI j) (nI (t + a)) (μ := am_rw (am_rw μ 15 e) 126 g) ν (hV.2.2.2.1 _ hs).2.2.2.1 (hV.2.2.2.2.2 (by omega)) hO.1.2.2.2
    have hdr : lwV (vL V) (nI (vW V s)) (nI c) (nI j) (nI (t + a)) = dr3 V t s j a := by rw [hc]; rfl
    rw [hdr, rw15] at hd
    refine am_q_iload rfl rfl ?_
    refine am_q_iconst (v := nI 3) rfl rfl ?_
    refine am_q_igeN rfl (by omega) (by omega) (fun c_94 => absurd c_94 (by omega)) (fun c_94 => ?_)
    refine am_q_iload_n rfl rfl ?_
    refine am_q_iload rfl rfl ?_
    refine am_q_call rfl rfl (s_hasN _ _ _ (by omega) (by omega) _) rfl ?_
    refine am_q_if_eqB rfl (fun c_103 => ?_) (fun c_103 => ?_)
    · exact K e g _ _ _ (tbD_s (Or.inr c_103) hinv)
    · refine am_q_iload rfl rfl ?_
      refine am_q_iload rfl rfl ?_
      refine am_q_iload rfl rfl ?_
      refine am_q_call rfl rfl (s_cellOf _ _ _ _ _) rfl ?_
      refine am_q_istore [some _, some _, some _, some _, some _, some _, some _, some _, some _, _] rfl (Nat.le_of_ble_eq_true rfl) rfl ?_
      refine am_q_aload_n rfl rfl ?_
      refine am_q_gr rfl rfl rfl ?_
      refine am_q_iload rfl rfl ?_
      refine am_q_iload rfl rfl ?_
      refine am_q_iload rfl rfl ?_
      refine am_q_iload_n rfl rfl ?_
      refine am_q_iload rfl rfl ?_
      refine am_q_iadd rfl (nI_add _ _) ?_
      refine am_q_call rfl rfl (hd) rfl ?_
      refine am_q_istore [some _, some _, some _, some _, some _, some _, some _, some _, some _, some _] rfl (Nat.le_of_ble_eq_true rfl) rfl ?_
      refine am_q_aload_n rfl rfl ?_
      refine am_q_gr rfl rfl rfl ?_
      refine am_q_iload rfl rfl ?_
      refine am_q_iload rfl rfl ?_
      refine am_q_if_eqB rfl (fun c_144 => ?_) (fun c_144 => ?_)
      · have hv : nI (soo V t sp s j (sp - (a + 1))) = nI (soo V t sp s j (sp - a)) := by rw [soo_s ha, if_neg (by simp [c_144])]
        refine am_q_aload_n rfl rfl ?_
        refine am_q_gr rfl rfl rfl ?_
        refine am_q_iload rfl rfl ?_
        refine am_q_bipush (v := nI 18) rfl rfl ?_
        refine am_q_iadd rfl (nI_add _ _) ?_
        refine am_q_iald rfl rfl (am_ix_nI (show a * 18 + s * 3 + j + 18 < 1098 by omega) (by decide)) ((show am_rw (am_rw μ 15 e2) 126 g 126 (a * 18 + s * 3 + j + 18) = g ((a + 1) * 18 + s * 3 + j) by unfold am_rw; rw [if_pos rfl]; congr 1; omega).trans (hinv (a + 1) s j (by omega) hs c_103 (by omega) (Or.inl (Nat.le_refl _)))) ?_
        refine am_q_iast rfl rfl (am_ix_nI (show a * 18 + s * 3 + j < 1098 by omega) (by decide)) rfl ?_
        rw [rw126]
        refine am_q_iinc [some _, some _, some _, some _, some _, some _, some _, some _, some _, some _] rfl (c := nI 1) rfl rfl (Nat.le_of_ble_eq_true rfl) (nI_add _ _) rfl ?_
        refine am_q_goto rfl ?_
        exact ih (j + 1) e2 _ _ _ (by omega) (tbD_nb h6 (by omega) (by omega) hv hinv)
      · have hv : nI a = nI (soo V t sp s j (sp - a)) := by rw [soo_s ha, if_pos c_144]
        refine am_q_iload rfl rfl ?_
        refine am_q_goto rfl ?_
        refine am_q_iast rfl rfl (am_ix_nI (show a * 18 + s * 3 + j < 1098 by omega) (by decide)) rfl ?_
        rw [rw126]
        refine am_q_iinc [some _, some _, some _, some _, some _, some _, some _, some _, some _, some _] rfl (c := nI 1) rfl rfl (Nat.le_of_ble_eq_true rfl) (nI_add _ _) rfl ?_
        refine am_q_goto rfl ?_
        exact ih (j + 1) e2 _ _ _ (by omega) (tbD_nb h6 (by omega) (by omega) hv hinv)

theorem s_prepS (d a c t sp b n : Nat) {V : sVal} {μ : am_M2} (ν : am_N2) (hV : xVal μ V) (hO : vOk V) (ht : t < 2 ^ 20) (hsp : sp ≤ 60) (hb : b < 64) (hs5 : μ 125 5 = nI sp) (ha : a < sp) (hc : c = vCold V (t + a)) (Q : am_R → Prop) (K : ∀ e g o6 o7 o8 o9, tbD V t sp b a 0 0 g → am_w (d + 4) (Option.none : Option FieldType) am_g103 175 [some (.ref 125), some (.int (nI t)), some (.int (nI sp)), some (.int (nI b)), some (.int (nI a)), some (.int (nI c)), o6, o7, o8, o9] [] (am_hp n (am_rw (am_rw μ 15 e) 126 g) ν) Q) : ∀ (m j : Nat) (e : Nat → Int32) (g : Nat → Int32) (o7 : Option Value) (o8 : Option Value) (o9 : Option Value), j + m = vN V → tbD V t sp b (a + 1) j 0 g → am_w (d + 4) (Option.none : Option FieldType) am_g103 76 [some (.ref 125), some (.int (nI t)), some (.int (nI sp)), some (.int (nI b)), some (.int (nI a)), some (.int (nI c)), some (.int (nI j)), o7, o8, o9] [] (am_hp n (am_rw (am_rw μ 15 e) 126 g) ν) (Q) := by
  intro m
  induction m with
  | zero =>
    intro j e g o7 o8 o9 hj hinv
    have h6 := hO.1.1
    refine am_q_iload rfl rfl ?_
    refine am_q_aload_n rfl rfl ?_
    refine am_q_gr rfl rfl rfl ?_
    refine am_q_gi rfl rfl rfl hV.1.1 ?_
    refine am_q_igeN rfl (by omega) (by omega) (fun c_85 => ?_) (fun c_85 => absurd c_85 (by omega))
    exact K e g _ _ _ _ (tbD_a (by omega) hinv)
  | succ m ih =>
    intro j e g o7 o8 o9 hj hinv
    have h6 := hO.1.1
    refine am_q_iload rfl rfl ?_
    refine am_q_aload_n rfl rfl ?_
    refine am_q_gr rfl rfl rfl ?_
    refine am_q_gi rfl rfl rfl hV.1.1 ?_
    refine am_q_igeN rfl (by omega) (by omega) (fun c_85 => absurd c_85 (by omega)) (fun c_85 => ?_)
    refine am_q_iconst (v := nI 0) rfl rfl ?_
    refine am_q_istore [some _, some _, some _, some _, some _, some _, some _, some _, _, _] rfl (Nat.le_of_ble_eq_true rfl) rfl ?_
    refine s_prepN d a j c t sp b n ν hV hO ht hsp hb hs5 ha (by omega) hc Q (fun e g o7 o8 o9 hg => ?_) 3 0 e g _ _ (by omega) hinv
    refine am_q_iinc [some _, some _, some _, some _, some _, some _, some _, _, _, _] rfl (c := nI 1) rfl rfl (Nat.le_of_ble_eq_true rfl) (nI_add _ _) rfl ?_
    refine am_q_goto rfl ?_
    exact ih (j + 1) e g _ _ _ (by omega) hg
