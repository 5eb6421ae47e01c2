theorem m_worN (d n i q T : Nat) (x : Int) (h1 : -12 ≤ x) (h2 : x < 10000) {μ : am_M2} {g : Nat → Int32} (ν : am_N2) (hq : q < 2000) (hx : μ 140 q = nI (mEnc x)) (hT : T < 32) (o4 : Option Value) (Q : am_R → Prop) (h0 : 0 ≤ x) (K : ∀ o4, am_w (d + 1) (Option.some FieldType.int) am_g243 4 [some (.ref 133), some (.int (nI i)), some (.int (nI (T + 1))), some (.int (nI (q + 1))), o4] [] (am_hp n (am_rw μ 144 (upd g T (nI (mEnc x / 16)))) ν) Q) : am_w (d + 1) (Option.some FieldType.int) am_g243 4 [some (.ref 133), some (.int (nI i)), some (.int (nI T)), some (.int (nI q)), o4] [] (am_hp n (am_rw μ 144 g) ν) (Q) := by
  obtain ⟨m1, m2, m3, m4, m5, m6, m7, m8⟩ := mEnc_k h1 h2
  refine am_q_aload_n rfl rfl ?_
  refine am_q_gr rfl rfl rfl ?_
  refine am_q_iload_n rfl rfl ?_
  refine am_q_iald rfl rfl (by first | exact am_ix_nI (by omega) (by omega) | rfl) hx ?_
  refine am_q_bipush (v := nI 16) rfl rfl ?_
  refine am_q_irem rfl (by decide) (pk_rem (by omega) (by decide) (by decide)) ?_
  refine am_q_zeqN rfl (by omega) (fun c_13 => absurd c_13 (by omega)) (fun c_13 => ?_)
  refine am_q_aload_n rfl rfl ?_
  refine am_q_gr rfl rfl rfl ?_
  refine am_q_iload_n rfl rfl ?_
  refine am_q_iald rfl rfl (by first | exact am_ix_nI (by omega) (by omega) | rfl) hx ?_
  refine am_q_bipush (v := nI 16) rfl rfl ?_
  refine am_q_irem rfl (by decide) (pk_rem (by omega) (by decide) (by decide)) ?_
  refine am_q_istore [some _, some _, some _, some _, some _] rfl (Nat.le_of_ble_eq_true rfl) rfl ?_
  refine am_q_iload rfl rfl ?_
  refine am_q_iconst (v := nI 1) rfl rfl ?_
  refine am_q_ieqN rfl (by omega) (by omega) (fun c_30 => ?_) (fun c_30 => absurd c_30 (by omega))
  refine am_q_aload_n rfl rfl ?_
  refine am_q_gr rfl rfl rfl ?_
  refine am_q_iload_n rfl rfl ?_
  refine am_q_iload rfl rfl ?_
  refine am_q_iconst (v := nI 1) rfl rfl ?_
  refine am_q_ineN rfl (by omega) (by omega) (fun c_47 => absurd c_47 (by omega)) (fun c_47 => ?_)
  refine am_q_aload_n rfl rfl ?_
  refine am_q_gr rfl rfl rfl ?_
  refine am_q_iload_n rfl rfl ?_
  refine am_q_iald rfl rfl (by first | exact am_ix_nI (by omega) (by omega) | rfl) hx ?_
  refine am_q_bipush (v := nI 16) rfl rfl ?_
  refine am_q_idiv rfl (by decide) (pk_div (by omega) (by decide) (by decide)) ?_
  refine am_q_goto rfl ?_
  refine am_q_iast rfl rfl (am_ix_nI (show T < 64 by omega) (by decide)) rfl ?_
  rw [am_rw_up]
  refine am_q_iinc [some _, some _, some _, some _, some _] rfl (c := nI 1) rfl rfl (Nat.le_of_ble_eq_true rfl) (nI_add _ _) rfl ?_
  refine am_q_goto rfl ?_
  refine am_q_iinc [some _, some _, some _, some _, some _] rfl (c := nI 1) rfl rfl (Nat.le_of_ble_eq_true rfl) (nI_add _ _) rfl ?_
  refine am_q_goto rfl ?_
  exact K _

theorem m_worF (d n i q T : Nat) (x : Int) (h1 : -12 ≤ x) (h2 : x < 10000) {μ : am_M2} {g : Nat → Int32} (ν : am_N2) (hq : q < 2000) (hx : μ 140 q = nI (mEnc x)) (hT : T < 32) (o4 : Option Value) (Q : am_R → Prop) (v : Int32) (h0 : x < 0) (h4 : -4 ≤ x) (hv : μ 143 (mEnc x / 16) = v) (K : ∀ o4, am_w (d + 1) (Option.some FieldType.int) am_g243 4 [some (.ref 133), some (.int (nI i)), some (.int (nI (T + 1))), some (.int (nI (q + 1))), o4] [] (am_hp n (am_rw μ 144 (upd g T v)) ν) Q) : am_w (d + 1) (Option.some FieldType.int) am_g243 4 [some (.ref 133), some (.int (nI i)), some (.int (nI T)), some (.int (nI q)), o4] [] (am_hp n (am_rw μ 144 g) ν) (Q) := by
  obtain ⟨m1, m2, m3, m4, m5, m6, m7, m8⟩ := mEnc_k h1 h2
  have m9 := m8 h0
  refine am_q_aload_n rfl rfl ?_
  refine am_q_gr rfl rfl rfl ?_
  refine am_q_iload_n rfl rfl ?_
  refine am_q_iald rfl rfl (by first | exact am_ix_nI (by omega) (by omega) | rfl) hx ?_
  refine am_q_bipush (v := nI 16) rfl rfl ?_
  refine am_q_irem rfl (by decide) (pk_rem (by omega) (by decide) (by decide)) ?_
  refine am_q_zeqN rfl (by omega) (fun c_13 => absurd c_13 (by omega)) (fun c_13 => ?_)
  refine am_q_aload_n rfl rfl ?_
  refine am_q_gr rfl rfl rfl ?_
  refine am_q_iload_n rfl rfl ?_
  refine am_q_iald rfl rfl (by first | exact am_ix_nI (by omega) (by omega) | rfl) hx ?_
  refine am_q_bipush (v := nI 16) rfl rfl ?_
  refine am_q_irem rfl (by decide) (pk_rem (by omega) (by decide) (by decide)) ?_
  refine am_q_istore [some _, some _, some _, some _, some _] rfl (Nat.le_of_ble_eq_true rfl) rfl ?_
  refine am_q_iload rfl rfl ?_
  refine am_q_iconst (v := nI 1) rfl rfl ?_
  refine am_q_ieqN rfl (by omega) (by omega) (fun c_30 => absurd c_30 (by omega)) (fun c_30 => ?_)
  refine am_q_iload rfl rfl ?_
  refine am_q_iconst (v := nI 2) rfl rfl ?_
  refine am_q_ineN rfl (by omega) (by omega) (fun c_36 => absurd c_36 (by omega)) (fun c_36 => ?_)
  refine am_q_aload_n rfl rfl ?_
  refine am_q_gr rfl rfl rfl ?_
  refine am_q_iload_n rfl rfl ?_
  refine am_q_iload rfl rfl ?_
  refine am_q_iconst (v := nI 1) rfl rfl ?_
  refine am_q_ineN rfl (by omega) (by omega) (fun c_47 => ?_) (fun c_47 => absurd c_47 (by omega))
  refine am_q_aload_n rfl rfl ?_
  refine am_q_gr rfl rfl rfl ?_
  refine am_q_aload_n rfl rfl ?_
  refine am_q_gr rfl rfl rfl ?_
  refine am_q_iload_n rfl rfl ?_
  refine am_q_iald rfl rfl (by first | exact am_ix_nI (by omega) (by omega) | rfl) hx ?_
  refine am_q_bipush (v := nI 16) rfl rfl ?_
  refine am_q_idiv rfl (by decide) (pk_div (by omega) (by decide) (by decide)) ?_
  refine am_q_iald rfl rfl (am_ix_nI (show mEnc x / 16 < 4 by omega) (by decide)) hv ?_
  refine am_q_iast rfl rfl (am_ix_nI (show T < 64 by omega) (by decide)) rfl ?_
  rw [am_rw_up]
  refine am_q_iinc [some _, some _, some _, some _, some _] rfl (c := nI 1) rfl rfl (Nat.le_of_ble_eq_true rfl) (nI_add _ _) rfl ?_
  refine am_q_goto rfl ?_
  refine am_q_iinc [some _, some _, some _, some _, some _] rfl (c := nI 1) rfl rfl (Nat.le_of_ble_eq_true rfl) (nI_add _ _) rfl ?_
  refine am_q_goto rfl ?_
  exact K _

theorem m_worX (d n i q T : Nat) (x : Int) (h1 : -12 ≤ x) (h2 : x < 10000) {μ : am_M2} {g : Nat → Int32} (ν : am_N2) (hq : q < 2000) (hx : μ 140 q = nI (mEnc x)) (hT : T < 32) (o4 : Option Value) (Q : am_R → Prop) (v : Int32) (h0 : x = -5) (hv : g T = v) (K : ∀ o4, am_w (d + 1) (Option.some FieldType.int) am_g243 4 [some (.ref 133), some (.int (nI i)), some (.int (nI (T + 1))), some (.int (nI (q + 1))), o4] [] (am_hp n (am_rw μ 144 (upd g T (sB (decide (v = 0))))) ν) Q) : am_w (d + 1) (Option.some FieldType.int) am_g243 4 [some (.ref 133), some (.int (nI i)), some (.int (nI (T + 1))), some (.int (nI q)), o4] [] (am_hp n (am_rw μ 144 g) ν) (Q) := by
  obtain ⟨m1, m2, m3, m4, m5, m6, m7, m8⟩ := mEnc_k h1 h2
  refine am_q_aload_n rfl rfl ?_
  refine am_q_gr rfl rfl rfl ?_
  refine am_q_iload_n rfl rfl ?_
  refine am_q_iald rfl rfl (by first | exact am_ix_nI (by omega) (by omega) | rfl) hx ?_
  refine am_q_bipush (v := nI 16) rfl rfl ?_
  refine am_q_irem rfl (by decide) (pk_rem (by omega) (by decide) (by decide)) ?_
  refine am_q_zeqN rfl (by omega) (fun c_13 => absurd c_13 (by omega)) (fun c_13 => ?_)
  refine am_q_aload_n rfl rfl ?_
  refine am_q_gr rfl rfl rfl ?_
  refine am_q_iload_n rfl rfl ?_
  refine am_q_iald rfl rfl (by first | exact am_ix_nI (by omega) (by omega) | rfl) hx ?_
  refine am_q_bipush (v := nI 16) rfl rfl ?_
  refine am_q_irem rfl (by decide) (pk_rem (by omega) (by decide) (by decide)) ?_
  refine am_q_istore [some _, some _, some _, some _, some _] rfl (Nat.le_of_ble_eq_true rfl) rfl ?_
  refine am_q_iload rfl rfl ?_
  refine am_q_iconst (v := nI 1) rfl rfl ?_
  refine am_q_ieqN rfl (by omega) (by omega) (fun c_30 => absurd c_30 (by omega)) (fun c_30 => ?_)
  refine am_q_iload rfl rfl ?_
  refine am_q_iconst (v := nI 2) rfl rfl ?_
  refine am_q_ineN rfl (by omega) (by omega) (fun c_36 => ?_) (fun c_36 => absurd c_36 (by omega))
  refine am_q_iload rfl rfl ?_
  refine am_q_iconst (v := nI 3) rfl rfl ?_
  refine am_q_ineN rfl (by omega) (by omega) (fun c_86 => absurd c_86 (by omega)) (fun c_86 => ?_)
  refine am_q_aload_n rfl rfl ?_
  refine am_q_gr rfl rfl rfl ?_
  refine am_q_iload_n rfl rfl ?_
  refine am_q_iconst (v := nI 1) rfl rfl ?_
  refine am_q_isub rfl (nI_pred T) ?_
  refine am_q_aload_n rfl rfl ?_
  refine am_q_gr rfl rfl rfl ?_
  refine am_q_iload_n rfl rfl ?_
  refine am_q_iconst (v := nI 1) rfl rfl ?_
  refine am_q_isub rfl (nI_pred T) ?_
  refine am_q_iald rfl rfl (am_ix_nI (show T < 64 by omega) (by decide)) hv ?_
  refine am_q_if_ne rfl (fun c_104 => ?_) (fun c_104 => ?_)
  · refine am_q_iconst (v := nI 0) rfl rfl ?_
    refine am_q_iast rfl rfl (am_ix_nI (show T < 64 by omega) (by decide)) rfl ?_
    rw [am_rw_up]
    refine am_q_goto rfl ?_
    refine am_q_iinc [some _, some _, some _, some _, some _] rfl (c := nI 1) rfl rfl (Nat.le_of_ble_eq_true rfl) (nI_add _ _) rfl ?_
    refine am_q_goto rfl ?_
    first | (rw [decide_eq_true c_104] at K; exact K _) | (rw [decide_eq_false c_104] at K; exact K _)
  · refine am_q_iconst (v := nI 1) rfl rfl ?_
    refine am_q_goto rfl ?_
    refine am_q_iast rfl rfl (am_ix_nI (show T < 64 by omega) (by decide)) rfl ?_
    rw [am_rw_up]
    refine am_q_goto rfl ?_
    refine am_q_iinc [some _, some _, some _, some _, some _] rfl (c := nI 1) rfl rfl (Nat.le_of_ble_eq_true rfl) (nI_add _ _) rfl ?_
    refine am_q_goto rfl ?_
    first | (rw [decide_eq_true c_104] at K; exact K _) | (rw [decide_eq_false c_104] at K; exact K _)

theorem m_worJ (d n i q T : Nat) (x : Int) (h1 : -12 ≤ x) (h2 : x < 10000) {μ : am_M2} {g : Nat → Int32} (ν : am_N2) (hq : q < 2000) (hx : μ 140 q = nI (mEnc x)) (hT : T < 32) (o4 : Option Value) (Q : am_R → Prop) (v y : Int32) (h0 : x < -5) (hv : g T = v) (hy : g (T + 1) = y) (K : ∀ o4, am_w (d + 1) (Option.some FieldType.int) am_g243 4 [some (.ref 133), some (.int (nI i)), some (.int (nI (T + 1))), some (.int (nI (q + 1))), o4] [] (am_hp n (am_rw μ 144 (upd g T (lwJ x v y))) ν) Q) : am_w (d + 1) (Option.some FieldType.int) am_g243 4 [some (.ref 133), some (.int (nI i)), some (.int (nI (T + 2))), some (.int (nI q)), o4] [] (am_hp n (am_rw μ 144 g) ν) (Q) := by
  obtain ⟨m1, m2, m3, m4, m5, m6, m7, m8⟩ := mEnc_k h1 h2
  refine am_q_aload_n rfl rfl ?_
  refine am_q_gr rfl rfl rfl ?_
  refine am_q_iload_n rfl rfl ?_
  refine am_q_iald rfl rfl (by first | exact am_ix_nI (by omega) (by omega) | rfl) hx ?_
  refine am_q_bipush (v := nI 16) rfl rfl ?_
  refine am_q_irem rfl (by decide) (pk_rem (by omega) (by decide) (by decide)) ?_
  refine am_q_zeqN rfl (by omega) (fun c_13 => absurd c_13 (by omega)) (fun c_13 => ?_)
  refine am_q_aload_n rfl rfl ?_
  refine am_q_gr rfl rfl rfl ?_
  refine am_q_iload_n rfl rfl ?_
  refine am_q_iald rfl rfl (by first | exact am_ix_nI (by omega) (by omega) | rfl) hx ?_
  refine am_q_bipush (v := nI 16) rfl rfl ?_
  refine am_q_irem rfl (by decide) (pk_rem (by omega) (by decide) (by decide)) ?_
  refine am_q_istore [some _, some _, some _, some _, some _] rfl (Nat.le_of_ble_eq_true rfl) rfl ?_
  refine am_q_iload rfl rfl ?_
  refine am_q_iconst (v := nI 1) rfl rfl ?_
  refine am_q_ieqN rfl (by omega) (by omega) (fun c_30 => absurd c_30 (by omega)) (fun c_30 => ?_)
  refine am_q_iload rfl rfl ?_
  refine am_q_iconst (v := nI 2) rfl rfl ?_
  refine am_q_ineN rfl (by omega) (by omega) (fun c_36 => ?_) (fun c_36 => absurd c_36 (by omega))
  refine am_q_iload rfl rfl ?_
  refine am_q_iconst (v := nI 3) rfl rfl ?_
  refine am_q_ineN rfl (by omega) (by omega) (fun c_86 => ?_) (fun c_86 => absurd c_86 (by omega))
  refine am_q_iinc [some _, some _, some _, some _, some _] rfl (c := -1) rfl rfl (Nat.le_of_ble_eq_true rfl) (pk_m1 (T + 1)) rfl ?_
  refine am_q_aload_n rfl rfl ?_
  refine am_q_gr rfl rfl rfl ?_
  refine am_q_iload_n rfl rfl ?_
  refine am_q_iconst (v := nI 1) rfl rfl ?_
  refine am_q_isub rfl (nI_pred T) ?_
  refine am_q_iload rfl rfl ?_
  refine am_q_aload_n rfl rfl ?_
  refine am_q_gr rfl rfl rfl ?_
  refine am_q_iload_n rfl rfl ?_
  refine am_q_iconst (v := nI 1) rfl rfl ?_
  refine am_q_isub rfl (nI_pred T) ?_
  refine am_q_iald rfl rfl (am_ix_nI (show T < 64 by omega) (by decide)) hv ?_
  refine am_q_aload_n rfl rfl ?_
  refine am_q_gr rfl rfl rfl ?_
  refine am_q_iload_n rfl rfl ?_
  refine am_q_iald rfl rfl (am_ix_nI (show T + 1 < 64 by omega) (by decide)) hy ?_
  refine am_q_call rfl rfl (m_worked d h1 h0 v y _) rfl ?_
  refine am_q_iast rfl rfl (am_ix_nI (show T < 64 by omega) (by decide)) rfl ?_
  rw [am_rw_up]
  refine am_q_iinc [some _, some _, some _, some _, some _] rfl (c := nI 1) rfl rfl (Nat.le_of_ble_eq_true rfl) (nI_add _ _) rfl ?_
  refine am_q_goto rfl ?_
  exact K _

theorem m_worE (d n i q T : Nat) {μ : am_M2} {g : Nat → Int32} (ν : am_N2) (hq : q < 2000) (hx : μ 140 q = nI 0) (o4 : Option Value) (v : Int32) (hv : g 0 = v) (Q : am_R → Prop) (K : Q (some (.int v), am_hp n (am_rw μ 144 g) ν)) : am_w (d + 1) (Option.some FieldType.int) am_g243 4 [some (.ref 133), some (.int (nI i)), some (.int (nI T)), some (.int (nI q)), o4] [] (am_hp n (am_rw μ 144 g) ν) (Q) := by
  refine am_q_aload_n rfl rfl ?_
  refine am_q_gr rfl rfl rfl ?_
  refine am_q_iload_n rfl rfl ?_
  refine am_q_iald rfl rfl (by first | exact am_ix_nI (by omega) (by omega) | rfl) hx ?_
  refine am_q_bipush (v := nI 16) rfl rfl ?_
  refine am_q_irem rfl (by decide) (show nI 0 - nI 0 / nI 16 * nI 16 = nI 0 from by decide) ?_
  refine am_q_zeqN rfl (by omega) (fun c_13 => ?_) (fun c_13 => absurd c_13 (by omega))
  refine am_q_aload_n rfl rfl ?_
  refine am_q_gr rfl rfl rfl ?_
  refine am_q_iconst (v := nI 0) rfl rfl ?_
  refine am_q_iald rfl rfl (by first | exact am_ix_nI (by omega) (by omega) | rfl) hv ?_
  refine am_q_ireturn rfl rfl rfl ?_
  exact K

def lwT (p : List Int) (w c b t : Int32) : Int32 := match lwE w c b t p [] with
  | some (v :: _) => v
  | _ => 0
theorem lwT_V {p : List Int} {w c b t : Int32} (hp : lwOk p) : lwV p w c b t = decide (lwT p w c b t ≠ 0) := by
  obtain ⟨k, h1, h2⟩ := lwD_some p [] w c b t hp.1
  unfold lwV lwT
  rw [h1]
  match k, h2 with
  | v :: r, _ => rfl
theorem lwF_m {x : Int} (h0 : x < 0) (h4 : -4 ≤ x) {w c b t : Int32} {f : Nat → Int32} (hf : f 0 = w ∧ f 1 = c ∧ f 2 = b ∧ f 3 = t) : f (mEnc x / 16) = lwF w c b t x := by
  rcases (show x = -1 ∨ x = -2 ∨ x = -3 ∨ x = -4 by omega) with rfl | rfl | rfl | rfl
  · exact hf.1
  · exact hf.2.1
  · exact hf.2.2.1
  · exact hf.2.2.2
theorem m_worL (d n i : Nat) (w c b t : Int32) {p : List Int} {μ : am_M2} (ν : am_N2) (hi : i + p.length < 1100) (hc : ∀ j (h : j < p.length), μ 140 (i + j) = nI (mEnc p[j])) (hz : μ 140 (i + p.length) = nI 0) (hp : lwOk p) (hf : μ 143 0 = w ∧ μ 143 1 = c ∧ μ 143 2 = b ∧ μ 143 3 = t) : ∀ (m j : Nat) (k : List Int32) (g : Nat → Int32) (o4 : Option Value), j + m = p.length → lwR g k ∧ lwD (p.drop j) k.length = some 1 ∧ lwE w c b t (p.drop j) k = lwE w c b t p [] ∧ k.length ≤ 32 → am_w (d + 1) (Option.some FieldType.int) am_g243 4 [some (.ref 133), some (.int (nI i)), some (.int (nI k.length)), some (.int (nI (i + j))), o4] [] (am_hp n (am_rw μ 144 g) ν) (fun y => ∃ g, y = (some (.int (lwT p w c b t)), am_hp n (am_rw μ 144 g) ν)) := by
  intro m
  induction m with
  | zero =>
    intro j k g o4 hj hinv
    obtain ⟨hR, hD, hE, h32⟩ := hinv
    rw [List.drop_eq_nil_of_le (by omega)] at hD hE
    have hk1 : k.length = 1 := by simpa [lwD] using hD
    obtain ⟨v, rfl⟩ : ∃ v, k = [v] := List.length_eq_one_iff.mp hk1
    have e1 : g 0 = v := hR 0 v rfl
    have hV : lwT p w c b t = v := by unfold lwT; rw [← hE]; rfl
    rw [hV]
    exact m_worE d n i (i + j) 1 ν (by omega) (by rw [show i + j = i + p.length by omega]; exact hz) o4 v e1 _ ⟨g, rfl⟩
  | succ m ih =>
    intro j k g o4 hj hinv
    obtain ⟨hR, hD, hE, h32⟩ := hinv
    have hjl : j < p.length := by omega
    obtain ⟨hx1, hx2⟩ := hp.2.2 _ (List.getElem_mem hjl)
    have hx := hc j hjl
    rw [lw_drop hjl] at hD hE
    unfold lwD at hD
    rcases (show 0 ≤ p[j] ∨ (p[j] < 0 ∧ -4 ≤ p[j]) ∨ p[j] = -5 ∨ p[j] < -5 by omega) with h0 | h0 | h0 | h0
    · rw [if_pos (by omega)] at hD
      have hk : k.length < 32 := by (split at hD; assumption; cases hD)
      rw [if_pos hk] at hD
      rw [lwE_num h0 hk] at hE
      refine m_worN d n i (i + j) k.length p[j] hx1 hx2 ν (by omega) hx hk o4 _ h0 (fun o => ?_)
      rw [((mEnc_k hx1 hx2).2.2.2.2.2.2.1 h0)]
      exact ih (j + 1) (nI p[j].toNat :: k) _ o (by omega) ⟨lwR_push hR _, hD, hE, by (simp; omega)⟩
    · rw [if_pos h0.2] at hD
      have hk : k.length < 32 := by (split at hD; assumption; cases hD)
      rw [if_pos hk] at hD
      rw [lwE_fact h0.1 h0.2 hk] at hE
      refine m_worF d n i (i + j) k.length p[j] hx1 hx2 ν (by omega) hx hk o4 _ _ h0.1 h0.2 (lwF_m h0.1 h0.2 hf) (fun o => ?_)
      exact ih (j + 1) (_ :: k) _ o (by omega) ⟨lwR_push hR _, hD, hE, by (simp; omega)⟩
    · rw [if_neg (by omega), if_pos h0] at hD
      have hk : 1 ≤ k.length := by (split at hD; assumption; cases hD)
      rw [if_pos hk] at hD
      obtain ⟨v, r, rfl⟩ : ∃ v r, k = v :: r := by (match k, hk with | v :: r, _ => exact ⟨v, r, rfl⟩)
      rw [lwE_not h0] at hE
      obtain ⟨hR1, e1⟩ := lwR_pop hR
      have hlr : r.length < 32 := by (simp at h32; omega)
      refine m_worX d n i (i + j) r.length p[j] hx1 hx2 ν (by omega) hx hlr o4 _ v h0 e1 (fun o => ?_)
      exact ih (j + 1) (_ :: r) _ o (by omega) ⟨lwR_push hR1 _, hD, hE, by (simp; omega)⟩
    · rw [if_neg (by omega), if_neg (by omega)] at hD
      have hk : 2 ≤ k.length := by (split at hD; assumption; cases hD)
      rw [if_pos hk] at hD
      obtain ⟨y, v, r, rfl⟩ : ∃ y v r, k = y :: v :: r := by (match k, hk with | y :: v :: r, _ => exact ⟨y, v, r, rfl⟩)
      rw [lwE_join h0] at hE
      obtain ⟨hR1, e1⟩ := lwR_pop hR
      obtain ⟨hR2, e2⟩ := lwR_pop hR1
      have hlr : r.length < 31 := by (simp at h32; omega)
      refine m_worJ d n i (i + j) r.length p[j] hx1 hx2 ν (by omega) hx (by omega) o4 _ v y h0 e2 e1 (fun o => ?_)
      exact ih (j + 1) (_ :: r) _ o (by omega) ⟨lwR_push hR2 _, hD, hE, by (simp; omega)⟩
/-- StoneSecretsModel.worthAt(I)I -/
theorem m_worthAt (d : Nat) (n i : Nat) (w c b t : Int32) {p : List Int} {μ : am_M2} (ν : am_N2) (hi : i + p.length < 1100) (hc : ∀ j (h : j < p.length), μ 140 (i + j) = nI (mEnc p[j])) (hz : μ 140 (i + p.length) = nI 0) (hp : lwOk p) (hf : μ 143 0 = w ∧ μ 143 1 = c ∧ μ 143 2 = b ∧ μ 143 3 = t) : ∃ (g : Nat → Int32), am_run (d + 2) 243 [.ref 133, .int (nI i)] (am_hp n μ ν) = some (some (.int (lwT p w c b t)), am_hp n (am_rw μ 144 g) ν) := by
  have key : ∃ r, am_run (d + 2) 243 [.ref 133, .int (nI i)] (am_hp n μ ν) = some r ∧ ∃ (g : Nat → Int32), r = (some (.int (lwT p w c b t)), am_hp n (am_rw μ 144 g) ν) := am_run_wE (k := 243) (d := d + 1) rfl rfl (Nat.le_of_ble_eq_true rfl) [some (.ref 133), some (.int (nI i)), none, none, none] rfl (by
    refine am_q_iconst (v := nI 0) rfl rfl ?_
    refine am_q_istore_n [some _, some _, some _, none, none] rfl (Nat.le_of_ble_eq_true rfl) rfl ?_
    refine am_q_iload_n rfl rfl ?_
    refine am_q_istore_n [some _, some _, some _, some _, none] rfl (Nat.le_of_ble_eq_true rfl) rfl ?_
    have e := m_worL d n i w c b t ν hi hc hz hp hf p.length 0 [] (μ 144) none (by omega) ⟨fun q v h => by simp at h, hp.1, rfl, by simp⟩
    rw [am_rw_self] at e
    exact e)
  obtain ⟨r, h1, g, h2⟩ := key
  exact ⟨g, by rw [h1, h2]⟩

theorem lwV_d (w c b t : Int32) : lwV [-1, -2, -8] w c b t = decide (w < c) := by
  by_cases h : w < c <;> simp [lwV, lwE, lwS, lwF, lwJ, h, sB] <;> decide
theorem m_doesF0 (d : Nat) (n : Nat) {V : sVal} {W : sWall} {μ : am_M2} (ν : am_N2) (hV : mVal μ V) (hO : vOk V) (b : Nat) (hb : b + 13 ≤ 836) (hW : mWall μ b W) (hI : sI (vN V) (vP V) W.1 W.2.1) (s : Nat) (hs : s < vN V) (c : Nat) (hc : c < 2 ^ 20) (hst : W.1 s = 2) (hd : μ 139 4 = -1 ∧ vL V = [-1, -2, -8]) : ∃ (μ' : am_M2), am_run (d + 4) 241 [.ref 133, .int (nI b), .int (nI s), .int (nI c)] (am_hp n μ ν) = some (some (.int (sB (sFall V W.2.1 W.2.2 c s))), am_hp n μ' ν) ∧ frD μ μ' := by
  have h6 := hO.1.1
  have hP8 := hO.1.2.1
  have h8 := sI_8 hO hI
  have hpk := sI_p hI
  have hs6 : s < 6 := by omega
  obtain ⟨p, hpl⟩ := Option.isSome_iff_exists.mp ((hI s hs6).2.1.mpr hst)
  have hps : μ 145 (b + 7 + s) = nI p := by rw [(hW.2 s hs6).2, hpl]; rfl
  have hp8 := h8 s hs6 p hpl
  have hvw := vW_le hO hs
  have h64 := mBe_64 h6 hpk p
  have hnb := mBe_bc h6 hpk p
  have hres : sFall V W.2.1 W.2.2 c s = lwV (vL V) (nI (vW V s)) (nI c) (nI (sNb (sTk W.2.1) p)) (nI W.2.2) := by unfold sFall; rw [hpl]
  rw [← hnb] at hres
  rw [hd.2, lwV_d] at hres
  have key : ∃ r, am_run (d + 4) 241 [.ref 133, .int (nI b), .int (nI s), .int (nI c)] (am_hp n μ ν) = some r ∧ ∃ (μ' : am_M2), r = (some (.int (sB (sFall V W.2.1 W.2.2 c s))), am_hp n μ' ν) ∧ frD μ μ' := am_run_wE (k := 241) (d := d + 3) rfl rfl (Nat.le_of_ble_eq_true rfl) [some (.ref 133), some (.int (nI b)), some (.int (nI s)), some (.int (nI c))] rfl (by
    refine am_q_aload_n rfl rfl ?_
    refine am_q_gr rfl rfl rfl ?_
    refine am_q_iconst (v := nI 0) rfl rfl ?_
    refine am_q_aload_n rfl rfl ?_
    refine am_q_iload_n rfl rfl ?_
    refine am_q_call rfl rfl (m_weightOf _ n ν hV hO s hs) rfl ?_
    refine am_q_iast rfl rfl (by first | exact am_ix_nI (by omega) (by omega) | rfl) rfl ?_
    refine am_q_aload_n rfl rfl ?_
    refine am_q_gr rfl rfl rfl ?_
    refine am_q_iconst (v := nI 1) rfl rfl ?_
    refine am_q_iload_n rfl rfl ?_
    refine am_q_iast rfl rfl (by first | exact am_ix_nI (by omega) (by omega) | rfl) rfl ?_
    refine am_q_aload_n rfl rfl ?_
    refine am_q_gr rfl rfl rfl ?_
    refine am_q_iconst (v := nI 2) rfl rfl ?_
    refine am_q_aload_n rfl rfl ?_
    refine am_q_iload_n rfl rfl ?_
    refine am_q_aload_n rfl rfl ?_
    refine am_q_gr rfl rfl rfl ?_
    refine am_q_iload_n rfl rfl ?_
    refine am_q_bipush (v := nI 7) rfl rfl ?_
    refine am_q_iadd rfl (nI_add _ _) ?_
    refine am_q_iload_n rfl rfl ?_
    refine am_q_iadd rfl (nI_add _ _) ?_
    refine am_q_iald rfl rfl (am_ix_nI (show b + 7 + s < 836 by omega) (by decide)) hps ?_
    have hV1 : mVal (am_up (am_up μ 143 0 (nI (vW V s))) 143 1 (nI c)) V := mVal_D (fun i h1 h2 => by unfold am_up; simp [h1]) hV
    have hW1 : mWall (am_up (am_up μ 143 0 (nI (vW V s))) 143 1 (nI c)) b W := mWall_D (fun i h1 h2 => by unfold am_up; simp [h1]) hW
    refine am_q_call rfl rfl (m_besideOf _ n ν hV1 hO b hb hW1 hI p (by omega)) rfl ?_
    refine am_q_call rfl rfl (m_bits _ _ h64 _) rfl ?_
    refine am_q_iast rfl rfl (by first | exact am_ix_nI (by omega) (by omega) | rfl) rfl ?_
    refine am_q_aload_n rfl rfl ?_
    refine am_q_gr rfl rfl rfl ?_
    refine am_q_iconst (v := nI 3) rfl rfl ?_
    refine am_q_aload_n rfl rfl ?_
    refine am_q_gr rfl rfl rfl ?_
    refine am_q_iload_n rfl rfl ?_
    refine am_q_iald rfl rfl (am_ix_nI (show b < 836 by omega) (by decide)) hW.1 ?_
    refine am_q_iast rfl rfl (by first | exact am_ix_nI (by omega) (by omega) | rfl) rfl ?_
    refine am_q_aload_n rfl rfl ?_
    refine am_q_gr rfl rfl rfl ?_
    refine am_q_iconst (v := nI 4) rfl rfl ?_
    refine am_q_iald rfl rfl (by first | exact am_ix_nI (by omega) (by omega) | rfl) hd.1 ?_
    refine am_q_if_ge rfl (fun c_61 => absurd c_61 (by decide)) (fun c_61 => ?_)
    refine am_q_aload_n rfl rfl ?_
    refine am_q_gr rfl rfl rfl ?_
    refine am_q_iconst (v := nI 0) rfl rfl ?_
    refine am_q_iald rfl rfl (by first | exact am_ix_nI (by omega) (by omega) | rfl) (show _ = nI (vW V s) from rfl) ?_
    refine am_q_iload_n rfl rfl ?_
    refine am_q_igeN rfl (by omega) (by omega) (fun c_71 => ?_) (fun c_71 => ?_)
    · refine am_q_iconst (v := nI 0) rfl rfl ?_
      refine am_q_goto rfl ?_
      refine am_q_ireturn rfl rfl rfl ?_
      rw [hres, decide_eq_false (nI_nlt c_71 (by omega))]
      exact ⟨_, rfl, fun i h1 h2 => by unfold am_up; simp [h1]⟩
    · refine am_q_iconst (v := nI 1) rfl rfl ?_
      refine am_q_goto rfl ?_
      refine am_q_ireturn rfl rfl rfl ?_
      rw [hres, decide_eq_true (nI_lt c_71 (by omega))]
      exact ⟨_, rfl, fun i h1 h2 => by unfold am_up; simp [h1]⟩)
  obtain ⟨r, h1, μ', h2, h3⟩ := key
  exact ⟨μ', by rw [h1, h2], h3⟩

theorem m_doesF1 (d : Nat) (n : Nat) {V : sVal} {W : sWall} {μ : am_M2} (ν : am_N2) (hV : mVal μ V) (hO : vOk V) (b : Nat) (hb : b + 13 ≤ 836) (hW : mWall μ b W) (hI : sI (vN V) (vP V) W.1 W.2.1) (s : Nat) (hs : s < vN V) (c : Nat) (hc : c < 2 ^ 20) (hst : W.1 s = 2) (i : Nat) (hd : i + (vL V).length < 1100 ∧ μ 139 4 = nI i ∧ (∀ j (h : j < (vL V).length), μ 140 (i + j) = nI (mEnc (vL V)[j])) ∧ μ 140 (i + (vL V).length) = nI 0) : ∃ (μ' : am_M2), am_run (d + 4) 241 [.ref 133, .int (nI b), .int (nI s), .int (nI c)] (am_hp n μ ν) = some (some (.int (sB (sFall V W.2.1 W.2.2 c s))), am_hp n μ' ν) ∧ frD μ μ' := by
  have h6 := hO.1.1
  have hP8 := hO.1.2.1
  have h8 := sI_8 hO hI
  have hpk := sI_p hI
  have hs6 : s < 6 := by omega
  obtain ⟨p, hpl⟩ := Option.isSome_iff_exists.mp ((hI s hs6).2.1.mpr hst)
  have hps : μ 145 (b + 7 + s) = nI p := by rw [(hW.2 s hs6).2, hpl]; rfl
  have hp8 := h8 s hs6 p hpl
  have hvw := vW_le hO hs
  have h64 := mBe_64 h6 hpk p
  have hnb := mBe_bc h6 hpk p
  have hres : sFall V W.2.1 W.2.2 c s = lwV (vL V) (nI (vW V s)) (nI c) (nI (sNb (sTk W.2.1) p)) (nI W.2.2) := by unfold sFall; rw [hpl]
  rw [← hnb] at hres
  rw [lwT_V hO.1.2.2.2] at hres
  obtain ⟨g, hg⟩ := m_worthAt (d + 1) n i (nI (vW V s)) (nI c) (nI (sn_bc (mBe W.2.1 p (vN V)))) (nI W.2.2) (μ := (am_up (am_up (am_up (am_up μ 143 0 (nI (vW V s))) 143 1 (nI c)) 143 2 (nI (sn_bc (mBe W.2.1 p (vN V))))) 143 3 (nI W.2.2))) ν hd.1 hd.2.2.1 hd.2.2.2 hO.1.2.2.2 ⟨rfl, rfl, rfl, rfl⟩
  have key : ∃ r, am_run (d + 4) 241 [.ref 133, .int (nI b), .int (nI s), .int (nI c)] (am_hp n μ ν) = some r ∧ ∃ (μ' : am_M2), r = (some (.int (sB (sFall V W.2.1 W.2.2 c s))), am_hp n μ' ν) ∧ frD μ μ' := am_run_wE (k := 241) (d := d + 3) rfl rfl (Nat.le_of_ble_eq_true rfl) [some (.ref 133), some (.int (nI b)), some (.int (nI s)), some (.int (nI c))] rfl (by
    refine am_q_aload_n rfl rfl ?_
    refine am_q_gr rfl rfl rfl ?_
    refine am_q_iconst (v := nI 0) rfl rfl ?_
    refine am_q_aload_n rfl rfl ?_
    refine am_q_iload_n rfl rfl ?_
    refine am_q_call rfl rfl (m_weightOf _ n ν hV hO s hs) rfl ?_
    refine am_q_iast rfl rfl (by first | exact am_ix_nI (by omega) (by omega) | rfl) rfl ?_
    refine am_q_aload_n rfl rfl ?_
    refine am_q_gr rfl rfl rfl ?_
    refine am_q_iconst (v := nI 1) rfl rfl ?_
    refine am_q_iload_n rfl rfl ?_
    refine am_q_iast rfl rfl (by first | exact am_ix_nI (by omega) (by omega) | rfl) rfl ?_
    refine am_q_aload_n rfl rfl ?_
    refine am_q_gr rfl rfl rfl ?_
    refine am_q_iconst (v := nI 2) rfl rfl ?_
    refine am_q_aload_n rfl rfl ?_
    refine am_q_iload_n rfl rfl ?_
    refine am_q_aload_n rfl rfl ?_
    refine am_q_gr rfl rfl rfl ?_
    refine am_q_iload_n rfl rfl ?_
    refine am_q_bipush (v := nI 7) rfl rfl ?_
    refine am_q_iadd rfl (nI_add _ _) ?_
    refine am_q_iload_n rfl rfl ?_
    refine am_q_iadd rfl (nI_add _ _) ?_
    refine am_q_iald rfl rfl (am_ix_nI (show b + 7 + s < 836 by omega) (by decide)) hps ?_
    have hV1 : mVal (am_up (am_up μ 143 0 (nI (vW V s))) 143 1 (nI c)) V := mVal_D (fun i h1 h2 => by unfold am_up; simp [h1]) hV
    have hW1 : mWall (am_up (am_up μ 143 0 (nI (vW V s))) 143 1 (nI c)) b W := mWall_D (fun i h1 h2 => by unfold am_up; simp [h1]) hW
    refine am_q_call rfl rfl (m_besideOf _ n ν hV1 hO b hb hW1 hI p (by omega)) rfl ?_
    refine am_q_call rfl rfl (m_bits _ _ h64 _) rfl ?_
    refine am_q_iast rfl rfl (by first | exact am_ix_nI (by omega) (by omega) | rfl) rfl ?_
    refine am_q_aload_n rfl rfl ?_
    refine am_q_gr rfl rfl rfl ?_
    refine am_q_iconst (v := nI 3) rfl rfl ?_
    refine am_q_aload_n rfl rfl ?_
    refine am_q_gr rfl rfl rfl ?_
    refine am_q_iload_n rfl rfl ?_
    refine am_q_iald rfl rfl (am_ix_nI (show b < 836 by omega) (by decide)) hW.1 ?_
    refine am_q_iast rfl rfl (by first | exact am_ix_nI (by omega) (by omega) | rfl) rfl ?_
    refine am_q_aload_n rfl rfl ?_
    refine am_q_gr rfl rfl rfl ?_
    refine am_q_iconst (v := nI 4) rfl rfl ?_
    refine am_q_iald rfl rfl (by first | exact am_ix_nI (by omega) (by omega) | rfl) hd.2.1 ?_
    refine am_q_zgeN rfl (by omega) (fun c_61 => ?_) (fun c_61 => absurd c_61 (by omega))
    refine am_q_aload_n rfl rfl ?_
    refine am_q_aload_n rfl rfl ?_
    refine am_q_gr rfl rfl rfl ?_
    refine am_q_iconst (v := nI 4) rfl rfl ?_
    refine am_q_iald rfl rfl (by first | exact am_ix_nI (by omega) (by omega) | rfl) hd.2.1 ?_
    refine am_q_call rfl rfl (hg) rfl ?_
    refine am_q_if_eq rfl (fun c_92 => ?_) (fun c_92 => ?_)
    · refine am_q_iconst (v := nI 0) rfl rfl ?_
      refine am_q_ireturn rfl rfl rfl ?_
      rw [hres, decide_eq_false (fun z => z c_92)]
      exact ⟨_, rfl, fun i h1 h2 => by unfold am_rw am_up; simp [h1, h2]⟩
    · refine am_q_iconst (v := nI 1) rfl rfl ?_
      refine am_q_goto rfl ?_
      refine am_q_ireturn rfl rfl rfl ?_
      rw [hres, decide_eq_true c_92]
      exact ⟨_, rfl, fun i h1 h2 => by unfold am_rw am_up; simp [h1, h2]⟩)
  obtain ⟨r, h1, μ', h2, h3⟩ := key
  exact ⟨μ', by rw [h1, h2], h3⟩

theorem m_doesFall (d : Nat) (n : Nat) {V : sVal} {W : sWall} {μ : am_M2} (ν : am_N2) (hV : mVal μ V) (hO : vOk V) (b : Nat) (hb : b + 13 ≤ 836) (hW : mWall μ b W) (hI : sI (vN V) (vP V) W.1 W.2.1) (s : Nat) (hs : s < vN V) (c : Nat) (hc : c < 2 ^ 20) (hst : W.1 s = 2) : ∃ μ', am_run (d + 4) 241 [.ref 133, .int (nI b), .int (nI s), .int (nI c)] (am_hp n μ ν) = some (some (.int (sB (sFall V W.2.1 W.2.2 c s))), am_hp n μ' ν) ∧ frD μ μ' := by
  rcases hV.2.2.2.2.2.2 with hd | ⟨i, hd⟩
  · exact m_doesF0 d n ν hV hO b hb hW hI s hs c hc hst hd
  · exact m_doesF1 d n ν hV hO b hb hW hI s hs c hc hst i hd