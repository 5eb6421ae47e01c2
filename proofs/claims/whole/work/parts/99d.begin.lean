/-- StoneSecrets$Law.beUsual()V -/
theorem s_beUsual (d : Nat) (n : Nat) {μ : am_M2} (ν : am_N2) : ∃ (μ' : am_M2), am_run (d + 2) 26 [.ref 24] (am_hp n μ ν) = some (none, am_hp n μ' ν) ∧ lawSt μ' [-1, -2, -8] ∧ ∀ i k, ¬ (i = 24 ∧ k = 2) → i ≠ 25 → μ' i k = μ i k := by
  have key : ∃ r, am_run (d + 2) 26 [.ref 24] (am_hp n μ ν) = some r ∧ ∃ (μ' : am_M2), r = (none, am_hp n μ' ν) ∧ lawSt μ' [-1, -2, -8] ∧ ∀ i k, ¬ (i = 24 ∧ k = 2) → i ≠ 25 → μ' i k = μ i k := am_run_wE (k := 26) (d := d + 1) rfl rfl (Nat.le_of_ble_eq_true rfl) [some (.ref 24)] rfl (by
    refine am_q_aload_n rfl rfl ?_
    refine am_q_call rfl rfl (s_beNothing _ n _ ν) rfl ?_
    refine am_q_aload_n rfl rfl ?_
    refine am_q_iconst (v := -1) rfl rfl ?_
    refine am_q_call rfl rfl (s_put1 _ n 0 (by decide) (-1) ν am_up_eq) rfl ?_
    refine am_q_aload_n rfl rfl ?_
    refine am_q_bipush (v := -2) rfl rfl ?_
    refine am_q_call rfl rfl (s_put1 _ n 1 (by decide) (-2) ν am_up_eq) rfl ?_
    refine am_q_aload_n rfl rfl ?_
    refine am_q_bipush (v := -8) rfl rfl ?_
    refine am_q_call rfl rfl (s_put1 _ n 2 (by decide) (-8) ν am_up_eq) rfl ?_
    refine am_q_return rfl rfl ?_
    refine ⟨_, rfl, ⟨am_up_eq, fun j hj => ?_⟩, fun i k z1 z2 => ?_⟩
    · have hj3 : j < 3 := hj
      rcases (show j = 0 ∨ j = 1 ∨ j = 2 by omega) with rfl | rfl | rfl
      · exact (am_up_ne (by omega)).trans ((am_up_ne (by omega)).trans ((am_up_ne (by omega)).trans ((am_up_ne (by omega)).trans ((am_up_ne (by omega)).trans am_up_eq))))
      · exact (am_up_ne (by omega)).trans ((am_up_ne (by omega)).trans ((am_up_ne (by omega)).trans am_up_eq))
      · exact (am_up_ne (by omega)).trans am_up_eq
    · rw [am_up_ne (by omega), am_up_ne (by omega), am_up_ne (by omega), am_up_ne (by omega), am_up_ne (by omega), am_up_ne (by omega), am_up_ne (by omega)])
  obtain ⟨r, h1, μ', h2, h3⟩ := key
  exact ⟨μ', by rw [h1, h2], h3⟩

theorem am_fl_ne {μ : am_M2} {a : Nat} {v : Int32} {m i k : Nat} (h : i ≠ a) : am_fl μ a v m i k = μ i k := by unfold am_fl; rw [if_neg h]
theorem am_fl_eq {μ : am_M2} {a : Nat} {v : Int32} {m k : Nat} (h : k < m) : am_fl μ a v m a k = v := by unfold am_fl; rw [if_pos rfl, if_pos h]
/-- StoneSecrets$Valley.beginReading()V -/
theorem s_beginR (d : Nat) (n : Nat) {μ : am_M2} (ν : am_N2) : ∃ (μ' : am_M2), am_run (d + 3) 24 [.ref 16] (am_hp n μ ν) = some (none, am_hp n μ' ν) ∧ xDf μ' ν d0 ∧ frVd μ μ' ∧ ∀ k, μ' 3 k = μ 3 k := by
  have key : ∃ r, am_run (d + 3) 24 [.ref 16] (am_hp n μ ν) = some r ∧ ∃ (μ' : am_M2), r = (none, am_hp n μ' ν) ∧ xDf μ' ν d0 ∧ frVd μ μ' ∧ ∀ k, μ' 3 k = μ 3 k := am_run_wE (k := 24) (d := d + 2) rfl rfl (Nat.le_of_ble_eq_true rfl) [some (.ref 16)] rfl (by
    refine am_q_aload_n rfl rfl ?_
    refine am_q_gr rfl rfl rfl ?_
    refine am_q_iconst (v := nI 0) rfl rfl ?_
    refine am_q_call rfl rfl (s_fill _ n 22 6 (nI 0) μ ν _ rfl (by decide)) rfl ?_
    refine am_q_aload_n rfl rfl ?_
    refine am_q_gr rfl rfl rfl ?_
    obtain ⟨μ1, hc1, hl1, hf1⟩ := s_beUsual d n (μ := am_fl μ 22 (nI 0) 6) ν
    refine am_q_call rfl rfl (hc1) rfl ?_
    refine am_q_aload_n rfl rfl ?_
    refine am_q_iconst (v := nI 0) rfl rfl ?_
    refine am_q_pi rfl rfl rfl (Or.inl rfl) ?_
    refine am_q_aload_n rfl rfl ?_
    refine am_q_iconst (v := nI 0) rfl rfl ?_
    refine am_q_pi rfl rfl rfl (Or.inl rfl) ?_
    refine am_q_aload_n rfl rfl ?_
    refine am_q_iconst (v := nI 0) rfl rfl ?_
    refine am_q_pi rfl rfl rfl (Or.inl rfl) ?_
    refine am_q_aload_n rfl rfl ?_
    refine am_q_iconst (v := nI 0) rfl rfl ?_
    refine am_q_pi rfl rfl rfl (Or.inl rfl) ?_
    refine am_q_aload_n rfl rfl ?_
    refine am_q_iconst (v := nI 0) rfl rfl ?_
    refine am_q_pi rfl rfl rfl (Or.inr ⟨rfl, by first | exact Or.inl rfl | exact Or.inr rfl⟩) ?_
    refine am_q_return rfl rfl ?_
    have g : ∀ i k, ¬ (i = 16 ∧ 8 ≤ k ∧ k ≤ 12) → am_up (am_up (am_up (am_up (am_up μ1 16 8 (nI 0)) 16 9 (nI 0)) 16 10 (nI 0)) 16 11 (nI 0)) 16 12 (nI 0) i k = μ1 i k := fun i k z => by rw [am_up_ne (by omega), am_up_ne (by omega), am_up_ne (by omega), am_up_ne (by omega), am_up_ne (by omega)]
    refine ⟨_, rfl, ⟨⟨?_, ?_, ?_, ?_, am_up_eq⟩, fun s hs => absurd hs (Nat.not_lt_zero _), fun s hs => ?_, fun j hj => absurd hj (Nat.not_lt_zero _), ?_, fun j hj => ?_⟩, fun i k z1 z2 => ?_, fun k => ?_⟩
    · exact (am_up_ne (by omega)).trans ((am_up_ne (by omega)).trans ((am_up_ne (by omega)).trans ((am_up_ne (by omega)).trans am_up_eq)))
    · exact (am_up_ne (by omega)).trans ((am_up_ne (by omega)).trans ((am_up_ne (by omega)).trans am_up_eq))
    · exact (am_up_ne (by omega)).trans ((am_up_ne (by omega)).trans am_up_eq)
    · exact (am_up_ne (by omega)).trans am_up_eq
    · rw [g 22 s (by omega), hf1 22 s (by omega) (by omega), am_fl_eq hs]; rfl
    · rw [g 24 2 (by omega)]; exact hl1.1
    · rw [g 25 j (by omega)]; exact hl1.2 j hj
    · rw [g i k (by omega), hf1 i k (by omega) (by omega), am_fl_ne (by omega)]
    · rw [g 3 k (by omega), hf1 3 k (by omega) (by omega), am_fl_ne (by omega)])
  obtain ⟨r, h1, μ', h2, h3⟩ := key
  exact ⟨μ', by rw [h1, h2], h3⟩

def lgK (μ : am_M2) (o : Nat) : Bool := decide (μ 18 o = nI 3)
def lgV (μ : am_M2) (N s : Nat) : Int32 := if μ 18 s = nI 3 then μ 22 s ||| (nI (sBits (lgK μ) N) &&& (nI (2 ^ s) ^^^ -1)) else μ 22 s
def lgF (μ : am_M2) (N j : Nat) : Nat → Int32 := fun s => if s < j then lgV μ N s else μ 22 s
theorem lgF_0 (μ : am_M2) (N : Nat) : am_rw μ 22 (lgF μ N 0) = μ := by
  have e : lgF μ N 0 = μ 22 := by funext s; unfold lgF; rw [if_neg (Nat.not_lt_zero _)]
  rw [e]; exact am_rw_self μ 22
theorem lgF_at (μ : am_M2) (N j : Nat) : am_rw μ 22 (lgF μ N j) 22 j = μ 22 j := by
  unfold am_rw lgF; rw [if_pos rfl, if_neg (Nat.lt_irrefl _)]
theorem lgF_18 (μ : am_M2) (N j a k : Nat) (h : a ≠ 22) : am_rw μ 22 (lgF μ N j) a k = μ a k := by
  unfold am_rw; rw [if_neg h]
theorem lgF_y {μ : am_M2} {N j : Nat} (h : μ 18 j = nI 3) : am_up (am_rw μ 22 (lgF μ N j)) 22 j (μ 22 j ||| (nI (sBits (lgK μ) N) &&& (nI (2 ^ j) ^^^ -1))) = am_rw μ 22 (lgF μ N (j + 1)) := by
  rw [am_rw_up]
  congr 1
  funext s
  by_cases e : s = j
  · subst e; rw [pk_us]; unfold lgF lgV; rw [if_pos (Nat.lt_succ_self _), if_pos h]
  · rw [pk_un e]
    unfold lgF
    by_cases l : s < j
    · rw [if_pos l, if_pos (show s < j + 1 by omega)]
    · rw [if_neg l, if_neg (show ¬ s < j + 1 by omega)]
theorem lgF_n {μ : am_M2} {N j : Nat} (h : ¬ μ 18 j = nI 3) : am_rw μ 22 (lgF μ N j) = am_rw μ 22 (lgF μ N (j + 1)) := by
  congr 1
  funext s
  unfold lgF
  by_cases e : s = j
  · subst e; unfold lgV; rw [if_neg (Nat.lt_irrefl _), if_pos (Nat.lt_succ_self _), if_neg h]
  · by_cases l : s < j
    · rw [if_pos l, if_pos (show s < j + 1 by omega)]
    · rw [if_neg l, if_neg (show ¬ s < j + 1 by omega)]
theorem s_alB (d : Nat) (n N : Nat) (hN : N ≤ 6) {μ : am_M2} (ν : am_N2) (h9 : μ 16 9 = nI N) : ∀ (m j : Nat) , j + m = N → am_w (d + 0) (Option.none : Option FieldType) am_g52 36 [some (.ref 16), some (.int (nI (sBits (lgK μ) N))), some (.int (nI j))] [] (am_hp n (am_rw μ 22 (lgF μ N j)) ν) (fun x => x = (none, am_hp n (am_rw μ 22 (lgF μ N N)) ν)) := by
  intro m
  induction m with
  | zero =>
    intro j  hj
    refine am_q_iload_n rfl rfl ?_
    refine am_q_aload_n rfl rfl ?_
    refine am_q_gi rfl rfl rfl ((lgF_18 μ N j 16 9 (by decide)).trans h9) ?_
    refine am_q_igeN rfl (by omega) (by omega) (fun c_41 => ?_) (fun c_41 => absurd c_41 (by omega))
    refine am_q_return rfl rfl ?_
    have e : j = N := by omega
    subst e
    rfl
  | succ m ih =>
    intro j  hj
    refine am_q_iload_n rfl rfl ?_
    refine am_q_aload_n rfl rfl ?_
    refine am_q_gi rfl rfl rfl ((lgF_18 μ N j 16 9 (by decide)).trans h9) ?_
    refine am_q_igeN rfl (by omega) (by omega) (fun c_41 => absurd c_41 (by omega)) (fun c_41 => ?_)
    refine am_q_aload_n rfl rfl ?_
    refine am_q_gr rfl rfl rfl ?_
    refine am_q_iload_n rfl rfl ?_
    refine am_q_iald rfl rfl (by first | exact am_ix_nI (by omega) (by omega) | rfl) (lgF_18 μ N j 18 j (by decide)) ?_
    refine am_q_iconst (v := nI 3) rfl rfl ?_
    refine am_q_icmp_ne rfl (fun c_51 => ?_) (fun c_51 => ?_)
    · refine am_q_iinc [some _, some _, some _] rfl (c := nI 1) rfl rfl (Nat.le_of_ble_eq_true rfl) (nI_add _ _) rfl ?_
      refine am_q_goto rfl ?_
      first
      | (rw [lgF_y (by assumption)]; exact ih (j + 1) (by omega))
      | (rw [lgF_n (by assumption)]; exact ih (j + 1) (by omega))
    · refine am_q_aload_n rfl rfl ?_
      refine am_q_gr rfl rfl rfl ?_
      refine am_q_iload_n rfl rfl ?_
      refine am_q_dup2ir rfl ?_
      refine am_q_iald rfl rfl (by first | exact am_ix_nI (by omega) (by omega) | rfl) (lgF_at μ N j) ?_
      refine am_q_iload_n rfl rfl ?_
      refine am_q_iconst (v := nI 1) rfl rfl ?_
      refine am_q_iload_n rfl rfl ?_
      refine am_q_ishl rfl (sn_shl1 (by omega)) ?_
      refine am_q_iconst (v := -1) rfl rfl ?_
      refine am_q_ixor rfl rfl ?_
      refine am_q_iand rfl rfl ?_
      refine am_q_ior rfl rfl ?_
      refine am_q_iast rfl rfl (by first | exact am_ix_nI (by omega) (by omega) | rfl) rfl ?_
      refine am_q_iinc [some _, some _, some _] rfl (c := nI 1) rfl rfl (Nat.le_of_ble_eq_true rfl) (nI_add _ _) rfl ?_
      refine am_q_goto rfl ?_
      first
      | (rw [lgF_y (by assumption)]; exact ih (j + 1) (by omega))
      | (rw [lgF_n (by assumption)]; exact ih (j + 1) (by omega))

theorem s_alA (d : Nat) (n N : Nat) (hN : N ≤ 6) {μ : am_M2} (ν : am_N2) (h9 : μ 16 9 = nI N) : ∀ (m j : Nat) , j + m = N → am_w (d + 0) (Option.none : Option FieldType) am_g52 4 [some (.ref 16), some (.int (nI (sBits (lgK μ) j))), some (.int (nI j))] [] (am_hp n μ ν) (fun x => x = (none, am_hp n (am_rw μ 22 (lgF μ N N)) ν)) := by
  intro m
  induction m with
  | zero =>
    intro j  hj
    refine am_q_iload_n rfl rfl ?_
    refine am_q_aload_n rfl rfl ?_
    refine am_q_gi rfl rfl rfl h9 ?_
    refine am_q_igeN rfl (by omega) (by omega) (fun c_9 => ?_) (fun c_9 => absurd c_9 (by omega))
    have e : j = N := by omega
    subst e
    refine am_q_iconst (v := nI 0) rfl rfl ?_
    refine am_q_istore_n [some _, some _, some _] rfl (Nat.le_of_ble_eq_true rfl) rfl ?_
    have g := s_alB d n j hN ν h9 j 0 (by omega)
    rw [lgF_0] at g
    exact g
  | succ m ih =>
    intro j  hj
    refine am_q_iload_n rfl rfl ?_
    refine am_q_aload_n rfl rfl ?_
    refine am_q_gi rfl rfl rfl h9 ?_
    refine am_q_igeN rfl (by omega) (by omega) (fun c_9 => absurd c_9 (by omega)) (fun c_9 => ?_)
    refine am_q_aload_n rfl rfl ?_
    refine am_q_gr rfl rfl rfl ?_
    refine am_q_iload_n rfl rfl ?_
    refine am_q_iald rfl rfl (by first | exact am_ix_nI (by omega) (by omega) | rfl) rfl ?_
    refine am_q_iconst (v := nI 3) rfl rfl ?_
    refine am_q_icmp_ne rfl (fun c_19 => ?_) (fun c_19 => ?_)
    · refine am_q_iinc [some _, some _, some _] rfl (c := nI 1) rfl rfl (Nat.le_of_ble_eq_true rfl) (nI_add _ _) rfl ?_
      refine am_q_goto rfl ?_
      have e := sBits_s (lgK μ) j
      first
      | (rw [if_pos (show lgK μ j = true from decide_eq_true (by assumption))] at e; rw [← e]; exact ih (j + 1) (by omega))
      | (rw [if_neg (show ¬ lgK μ j = true from fun z => absurd (of_decide_eq_true z) (by assumption))] at e; rw [← e]; exact ih (j + 1) (by omega))
    · refine am_q_iload_n rfl rfl ?_
      refine am_q_iconst (v := nI 1) rfl rfl ?_
      refine am_q_iload_n rfl rfl ?_
      refine am_q_ishl rfl (sn_shl1 (by omega)) ?_
      refine am_q_ior rfl (sn_or _ _) ?_
      refine am_q_istore_n [some _, some _, some _] rfl (Nat.le_of_ble_eq_true rfl) rfl ?_
      refine am_q_iinc [some _, some _, some _] rfl (c := nI 1) rfl rfl (Nat.le_of_ble_eq_true rfl) (nI_add _ _) rfl ?_
      refine am_q_goto rfl ?_
      have e := sBits_s (lgK μ) j
      first
      | (rw [if_pos (show lgK μ j = true from decide_eq_true (by assumption))] at e; rw [← e]; exact ih (j + 1) (by omega))
      | (rw [if_neg (show ¬ lgK μ j = true from fun z => absurd (of_decide_eq_true z) (by assumption))] at e; rw [← e]; exact ih (j + 1) (by omega))

/-- StoneSecrets$Valley.addLordsGrudges()V -/
theorem s_addLords (d : Nat) (n N : Nat) (hN : N ≤ 6) {μ : am_M2} (ν : am_N2) (h9 : μ 16 9 = nI N) : am_run (d + 1) 52 [.ref 16] (am_hp n μ ν) = some (none, am_hp n (am_rw μ 22 (lgF μ N N)) ν) := by
  refine am_r52 (d := d + 0) (Nat.le_of_ble_eq_true rfl) [some (.ref 16), none, none] rfl ?_
  refine am_q_iconst (v := nI 0) rfl rfl ?_
  refine am_q_istore_n [some _, some _, none] rfl (Nat.le_of_ble_eq_true rfl) rfl ?_
  refine am_q_iconst (v := nI 0) rfl rfl ?_
  refine am_q_istore_n [some _, some _, some _] rfl (Nat.le_of_ble_eq_true rfl) rfl ?_
  exact s_alA d n N hN ν h9 N 0 (by omega)
