theorem upL_e {ν : am_N2} {i k : Nat} {v : Int64} : am_upL ν i k v i k = v := by unfold am_upL; rw [if_pos rfl, if_pos rfl]
theorem upL_n {ν : am_N2} {i k j q : Nat} {v : Int64} (h : j ≠ i ∨ q ≠ k) : am_upL ν i k v j q = ν j q := by
  unfold am_upL
  by_cases e : j = i
  · rw [if_pos e, if_neg (by omega)]
  · rw [if_neg e]
def mS (k : Nat) : Nat := if k = 0 then 0 else if k = 1 then 4 else k - 1
def mTk1 (μ : am_M2) (ν : am_N2) (X : tTp) (i : Nat) : Prop := μ 135 i = nI (mS (kd X i)) ∧ μ 136 i = nI (pl X i) ∧ (kd X i = 2 → ν 137 i = lN (cw (wd X i))) ∧ (kd X i = 3 → ν 137 i = lN (nu X i)) ∧ (kd X i = 4 → ν 137 i = lN (X.1 (pl X i)))
def mTk (μ : am_M2) (ν : am_N2) (X : tTp) : Prop := ∀ i, i ≤ tN X → mTk1 μ ν X i
def frCu (μ μ' : am_M2) : Prop := ∀ i k, ¬ (i = 133 ∧ (k = 2 ∨ k = 3 ∨ k = 7 ∨ k = 8)) → i ≠ 135 → i ≠ 136 → μ' i k = μ i k
def frCuL (ν ν' : am_N2) : Prop := ∀ i k, i ≠ 137 → ν' i k = ν i k
def cuI (X : tTp) (t : Nat) (μ μ1 : am_M2) (ν ν1 : am_N2) : Prop := frCu μ μ1 ∧ frCuL ν ν1 ∧ μ1 133 3 = nI X.2 ∧ μ1 133 2 = nI 0 ∧ ∀ i, i < t → mTk1 μ1 ν1 X i
theorem cuI_s {X : tTp} {t p s : Nat} {v : Int64} {μ μ1 : am_M2} {ν ν1 : am_N2} (h : cuI X t μ μ1 ν ν1) (hp : p = pl X t) (hs : s = mS (kd X t)) (h2 : kd X t = 2 → v = lN (cw (wd X t))) (h3 : kd X t = 3 → v = lN (nu X t)) (h4 : kd X t = 4 → v = lN (X.1 (pl X t))) : cuI X (t + 1) μ (am_up (am_up μ1 136 t (nI p)) 135 t (nI s)) ν (am_upL ν1 137 t v) := by
  obtain ⟨a, b, c, c2, e⟩ := h
  refine ⟨fun i k z1 z2 z3 => by rw [am_up_ne (by omega), am_up_ne (by omega)]; exact a i k z1 z2 z3, fun i k z => (upL_n (by omega)).trans (b i k z), by rw [am_up_ne (by omega), am_up_ne (by omega)]; exact c, by rw [am_up_ne (by omega), am_up_ne (by omega)]; exact c2, fun i hi => ?_⟩
  by_cases z : i = t
  · subst z
    refine ⟨by rw [am_up_eq, hs], by rw [am_up_ne (by omega), am_up_eq, hp], fun q => by rw [upL_e]; exact h2 q, fun q => by rw [upL_e]; exact h3 q, fun q => by rw [upL_e]; exact h4 q⟩
  · obtain ⟨e1, e2, e3, e4, e5⟩ := e i (by omega)
    refine ⟨by rw [am_up_ne (by omega), am_up_ne (by omega)]; exact e1, by rw [am_up_ne (by omega), am_up_ne (by omega)]; exact e2, ?_, ?_, ?_⟩
    · rw [upL_n (by omega)]; exact e3
    · rw [upL_n (by omega)]; exact e4
    · rw [upL_n (by omega)]; exact e5
def cuQ (X : tTp) (n : Nat) (μ : am_M2) (ν : am_N2) (y : am_R) : Prop := ∃ μ' ν', y = (none, am_hp n μ' ν') ∧ mTk μ' ν' X ∧ μ' 133 7 = nI 0 ∧ μ' 133 8 = nI 0 ∧ μ' 133 2 = nI 0 ∧ frCu μ μ' ∧ frCuL ν ν'
theorem pl_bl {X : tTp} {t p : Nat} (h1 : en X t ≤ p) (h2 : p ≤ pl X t) (hp : p < X.2) : (blB (X.1 p) = true → p < pl X t) ∧ (blB (X.1 p) = false → p = pl X t) := by
  constructor
  · intro hb
    by_cases z : p = pl X t
    · have := rn_out (f := fun q => blB (X.1 q)) (n := X.2) (p := en X t) (by show pl X t < X.2; omega)
      have e : blB (X.1 (pl X t)) = false := this
      rw [← z, hb] at e; cases e
    · omega
  · intro hb
    by_cases z : p < pl X t
    · have e : blB (X.1 p) = true := rn_in (f := fun q => blB (X.1 q)) (n := X.2) (p := en X t) h1 z
      rw [hb] at e; cases e
    · omega
theorem bl_c {c : Nat} : blB c = true ↔ c = 10 ∨ c = 32 := by unfold blB; simp
theorem kd_at {X : tTp} {t : Nat} (hp : pl X t < X.2) : kd X t = (if leB (X.1 (pl X t)) = true then (if 8 < lxL X (pl X t) - pl X t then 1 else 2) else if diB (X.1 (pl X t)) = true then (if 4 < lxD X (pl X t) - pl X t then 1 else 3) else if sgB (X.1 (pl X t)) = true then 4 else 1) ∧ en X (t + 1) = (if leB (X.1 (pl X t)) = true then lxL X (pl X t) else if diB (X.1 (pl X t)) = true then lxD X (pl X t) else pl X t + 1) := by
  refine ⟨?_, ?_⟩
  · unfold kd lkK; rw [if_neg (by omega)]
  · rw [en_s]; unfold lkE; rw [if_neg (by omega)]
theorem m_cutA (d n : Nat) {X : tTp} (hX : tpOk X) {μ : am_M2} {ν : am_N2} (hT : ∀ j, j < X.2 → μ 134 j = nI (X.1 j)) : ∀ (m t p : Nat) (o3 o4 o5 o6 : Option Value) (μ1 : am_M2) (ν1 : am_N2), X.2 ≤ p + m → cuI X t μ μ1 ν ν1 → en X t ≤ p → p ≤ pl X t → t ≤ tN X → am_w (d + 3) (Option.none : Option FieldType) am_g185 17 [some (.ref 133), some (.int (nI t)), some (.int (nI p)), o3, o4, o5, o6] [] (am_hp n μ1 ν1) (cuQ X n μ ν) := by
  have Z : ∀ (t p : Nat) (o3 o4 o5 o6 : Option Value) (μ1 : am_M2) (ν1 : am_N2), X.2 ≤ p → cuI X t μ μ1 ν ν1 → en X t ≤ p → p ≤ pl X t → t ≤ tN X → am_w (d + 3) (Option.none : Option FieldType) am_g185 17 [some (.ref 133), some (.int (nI t)), some (.int (nI p)), o3, o4, o5, o6] [] (am_hp n μ1 ν1) (cuQ X n μ ν) := by
    intro t p o3 o4 o5 o6 μ1 ν1 hp hI h1 h2 ht
    have hN := tN_le X
    have h1000 := hX.1
    have hpl := pl_le X t
    obtain ⟨a, b, c, c2, e⟩ := hI
    have hT1 : ∀ j, j < X.2 → μ1 134 j = nI (X.1 j) := fun j hj => (a 134 j (by omega) (by omega) (by omega)).trans (hT j hj)
    refine m_cutZ d n t p hX hT1 c (by omega) o3 o4 o5 o6 _ hp (by omega) ?_
    have hk : kd X t = 0 := kd_0.mpr (by omega)
    have htt : t = tN X := by
      by_cases z : t < tN X
      · exact absurd hk (tN_n z)
      · omega
    have g : ∀ i k, ¬ (i = 133 ∧ (k = 7 ∨ k = 8)) → ¬ (135 ≤ i ∧ i ≤ 136 ∧ k = t) → am_up (am_up (am_up (am_up μ1 135 t (nI 0)) 136 t (nI X.2)) 133 7 (nI 0)) 133 8 (nI 0) i k = μ1 i k := fun i k z1 z2 => by rw [am_up_ne (by omega), am_up_ne (by omega), am_up_ne (by omega), am_up_ne (by omega)]
    refine ⟨_, _, rfl, fun i hi => ?_, (am_up_ne (by omega)).trans am_up_eq, am_up_eq, (g 133 2 (by omega) (by omega)).trans c2, fun i k z1 z2 z3 => (g i k (by omega) (by omega)).trans (a i k z1 z2 z3), b⟩
    by_cases z : i = t
    · subst z
      refine ⟨?_, ?_, fun q => by omega, fun q => by omega, fun q => by omega⟩
      · rw [am_up_ne (by omega), am_up_ne (by omega), am_up_ne (by omega), am_up_eq, hk]; rfl
      · rw [am_up_ne (by omega), am_up_ne (by omega), am_up_eq, show pl X i = X.2 by omega]
    · obtain ⟨e1, e2, e3⟩ := e i (by omega)
      exact ⟨(g 135 i (by omega) (by omega)).trans e1, (g 136 i (by omega) (by omega)).trans e2, e3⟩
  intro m
  induction m with
  | zero => intro t p o3 o4 o5 o6 μ1 ν1 hm hI h1 h2 ht; exact Z t p o3 o4 o5 o6 μ1 ν1 (by omega) hI h1 h2 ht
  | succ m ih =>
    intro t p o3 o4 o5 o6 μ1 ν1 hm hI h1 h2 ht
    by_cases hp : X.2 ≤ p
    · exact Z t p o3 o4 o5 o6 μ1 ν1 hp hI h1 h2 ht
    have hp' : p < X.2 := by omega
    have hN := tN_le X
    have h1000 := hX.1
    obtain ⟨q1, q2⟩ := pl_bl h1 h2 hp'
    have hT1 : ∀ j, j < X.2 → μ1 134 j = nI (X.1 j) := fun j hj => (hI.1 134 j (by omega) (by omega) (by omega)).trans (hT j hj)
    cases hb : blB (X.1 p) with
    | true =>
      have := q1 hb
      exact m_cutB d n t p hX hT1 hI.2.2.1 (by omega) o3 o4 o5 o6 _ hp' (bl_c.mp hb) (ih t (p + 1) _ _ _ _ μ1 ν1 (by omega) hI (by omega) (by omega) ht)
    | false =>
      have e := q2 hb
      have hnb : ¬ (X.1 p = 10 ∨ X.1 p = 32) := fun z => by rw [bl_c.mpr z] at hb; cases hb
      obtain ⟨k1, k2⟩ := kd_at (X := X) (t := t) (by omega)
      rw [← e] at k1 k2
      have hk0 : kd X t ≠ 0 := fun z => by have := kd_0.mp z; omega
      have ht1 := tN_s ht hk0
      have hge := pl_ge X (t + 1)
      have hen := en_le (X := X) (t + 1)
      have hlt := en_lt hk0
      cases hl : leB (X.1 p) with
      | true =>
        rw [if_pos hl] at k1 k2
        refine m_cutC d n t p hX hT1 hI.2.2.1 (by omega) o3 o4 o5 o6 _ hp' hnb hl (en X (t + 1)) (by omega) hen (fun x a b => rn_in (f := fun x => leB (X.1 x)) (n := X.2) (p := p) a (by rw [k2] at b; exact b)) (fun z => by rw [k2] at z ⊢; exact rn_out (f := fun x => leB (X.1 x)) z) ?_
        refine ih (t + 1) _ _ _ _ _ _ _ (by omega) (cuI_s hI e ?_ (fun z => ?_) (fun z => ?_) (fun z => ?_)) (Nat.le_refl _) hge ht1
        · rw [k1, k2]; split <;> rfl
        · obtain ⟨_, _, c, c8⟩ := wd_sp z
          rw [wd_cw z, ← e, Nat.min_eq_left (by rw [c, e]; exact c8)]
        · rw [k1] at z; split at z <;> cases z
        · rw [k1] at z; split at z <;> cases z
      | false =>
        rw [if_neg (by rw [hl]; exact Bool.false_ne_true)] at k1 k2
        cases hd : diB (X.1 p) with
        | true =>
          rw [if_pos hd] at k1 k2
          refine m_cutD d n t p hX hT1 hI.2.2.1 (by omega) o3 o4 o5 o6 _ hp' hnb hl hd (en X (t + 1)) (by omega) hen (fun x a b => rn_in (f := fun x => diB (X.1 x)) (n := X.2) (p := p) a (by rw [k2] at b; exact b)) (fun z => by rw [k2] at z ⊢; exact rn_out (f := fun x => diB (X.1 x)) z) ?_
          refine ih (t + 1) _ _ _ _ _ _ _ (by omega) (cuI_s hI e ?_ (fun z => ?_) (fun z => ?_) (fun z => ?_)) (Nat.le_refl _) hge ht1
          · rw [k1, k2]; split <;> rfl
          · rw [k1] at z; split at z <;> cases z
          · rw [k1, ← k2] at z
            have z4 : ¬ 4 < en X (t + 1) - p := fun y => by rw [if_pos y] at z; cases z
            rw [Nat.min_eq_left (by omega), e]; rfl
          · rw [k1] at z; split at z <;> cases z
        | false =>
          rw [if_neg (by rw [hd]; exact Bool.false_ne_true)] at k1 k2
          refine m_cutE d n t p hX hT1 hI.2.2.1 (by omega) o3 o4 o5 o6 _ hp' hnb hl hd ?_
          refine ih (t + 1) _ _ _ _ _ _ _ (by omega) (cuI_s hI e ?_ (fun z => ?_) (fun z => ?_) (fun z => ?_)) (by omega) (by omega) ht1
          · rw [k1]; split <;> rfl
          · rw [k1] at z; split at z <;> cases z
          · rw [k1] at z; split at z <;> cases z
          · rw [e]
theorem m_cutW (d n : Nat) {X : tTp} {μ : am_M2} {ν : am_N2} (hX : tpOk X) (hT : mTp μ X) : am_w (d + 3) (Option.none : Option FieldType) am_g185 0 [some (.ref 133), none, none, none, none, none, none] [] (am_hp n μ ν) (cuQ X n μ ν) := by
  refine am_q_aload_n rfl rfl ?_
  refine am_q_aload_n rfl rfl ?_
  refine am_q_gi rfl rfl rfl hT.1 ?_
  refine am_q_pi rfl rfl rfl (Or.inl rfl) ?_
  refine am_q_aload_n rfl rfl ?_
  refine am_q_iconst (v := nI 0) rfl rfl ?_
  refine am_q_pi rfl rfl rfl (Or.inl rfl) ?_
  refine am_q_iconst (v := nI 0) rfl rfl ?_
  refine am_q_istore_n [some _, some _, none, none, none, none, none] rfl (Nat.le_of_ble_eq_true rfl) rfl ?_
  refine am_q_iconst (v := nI 0) rfl rfl ?_
  refine am_q_istore_n [some _, some _, some _, none, none, none, none] rfl (Nat.le_of_ble_eq_true rfl) rfl ?_
  have f0 : frCu μ (am_up (am_up μ 133 3 (nI X.2)) 133 2 (nI 0)) := fun i k z1 z2 z3 => by rw [am_up_ne (by omega), am_up_ne (by omega)]
  exact m_cutA d n hX hT.2 X.2 0 0 none none none none _ ν (by omega) ⟨f0, fun _ _ _ => rfl, (am_up_ne (by omega)).trans am_up_eq, am_up_eq, fun i hi => absurd hi (Nat.not_lt_zero _)⟩ (Nat.le_refl _) (Nat.zero_le _) (Nat.zero_le _)

theorem m_cut (d n : Nat) {X : tTp} {μ : am_M2} {ν : am_N2} (hX : tpOk X) (hT : mTp μ X) : ∃ y, am_run (d + 4) 185 [.ref 133] (am_hp n μ ν) = some y ∧ cuQ X n μ ν y := am_run_wE (k := 185) (d := d + 3) rfl rfl (Nat.le_of_ble_eq_true rfl) [some (.ref 133), none, none, none, none, none, none] rfl (m_cutW d n hX hT)