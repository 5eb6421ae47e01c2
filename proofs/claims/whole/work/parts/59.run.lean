/-- what a run changes -/
def frR (μ μ' : am_M2) : Prop := ∀ i, i < 127 ∨ 129 < i → μ' i = μ i
theorem frR_tr {μ μ' μ'' : am_M2} (h : frR μ μ') (h' : frR μ' μ'') : frR μ μ'' := fun i q => (h' i q).trans (h i q)
theorem fr_R {μ μ' : am_M2} (h : frR μ μ') : fr μ μ' := fun i k q => by rw [h i (by omega)]
theorem xTb_R {V : sVal} {t sp b : Nat} {μ μ' : am_M2} (h : ∀ i, i = 125 ∨ i = 126 → μ' i = μ i) (hT : xTb V t sp b μ) : xTb V t sp b μ' := ⟨by rw [h 125 (Or.inl rfl)]; exact hT.1, fun a s nb a1 a2 a3 a4 => by rw [h 126 (Or.inr rfl)]; exact hT.2 a s nb a1 a2 a3 a4⟩
theorem plW_none {V : sVal} {t : Nat} {pl : Nat → Option Nat} : ∀ a s p, plW V t pl a s = some p → pl s = some p
  | 0, _, _, h => h
  | a + 1, s, p, h => by
    rw [plW] at h
    unfold wkPl at h
    split at h
    · split at h
      · cases h
      · exact plW_none a s p h
    · exact plW_none a s p h
theorem stN_le {V : sVal} (h6 : vN V ≤ 6) (q : Nat → Option Nat) : stN V q ≤ 6 := Nat.le_trans (fa_cnt_le _ _) h6
theorem xF_cong {μ : am_M2} {q q' : Nat → Option Nat} {f f' : Nat → Nat} (h : xF μ q f) (h1 : ∀ s, q s = q' s) (h2 : ∀ s, f s = f' s) : xF μ q' f' := ⟨fun s hs => by rw [← h1 s]; exact h.1 s hs, fun s hs => by rw [← h2 s]; exact h.2 s hs⟩
theorem s_runB (d n sp a j x : Nat) (μ : am_M2) (ν : am_N2) (hs : μ 125 5 = nI sp) (hsp : sp ≤ 60) (ha : sp < a) (ha2 : a ≤ 62) (hj : j ≤ 6) (o4 : Option Value) (Q : am_R → Prop) (hQ : Q (none, am_hp n μ ν)) : am_w (d + 2) (Option.none : Option FieldType) am_g106 24 [some (.ref 125), some (.ref x), some (.int (nI a)), some (.int (nI j)), o4] [] (am_hp n μ ν) (Q) := by
  refine am_q_iload_n rfl rfl ?_
  refine am_q_bipush (v := nI 6) rfl rfl ?_
  refine am_q_igeN rfl (by omega) (by omega) (fun c_27 => ?_) (fun c_27 => ?_)
  · refine am_q_return rfl rfl ?_
    exact hQ
  · refine am_q_iload_n rfl rfl ?_
    refine am_q_aload_n rfl rfl ?_
    refine am_q_gi rfl rfl rfl hs ?_
    refine am_q_igtN rfl (by omega) (by omega) (fun c_35 => ?_) (fun c_35 => absurd c_35 (by omega))
    refine am_q_return rfl rfl ?_
    exact hQ

theorem s_run6 (d n a j x : Nat) (μ : am_M2) (ν : am_N2) (hj : j = 6) (o4 : Option Value) (Q : am_R → Prop) (hQ : Q (none, am_hp n μ ν)) : am_w (d + 2) (Option.none : Option FieldType) am_g106 24 [some (.ref 125), some (.ref x), some (.int (nI a)), some (.int (nI j)), o4] [] (am_hp n μ ν) (Q) := by
  refine am_q_iload_n rfl rfl ?_
  refine am_q_bipush (v := nI 6) rfl rfl ?_
  refine am_q_igeN rfl (by omega) (by omega) (fun c_27 => ?_) (fun c_27 => absurd c_27 (by omega))
  refine am_q_return rfl rfl ?_
  exact hQ

theorem s_runN (d n sp a j x : Nat) (μ : am_M2) (ν : am_N2) (h2 : am_H) (hs : μ 125 5 = nI sp) (hsp : sp ≤ 60) (ha : a ≤ sp) (hj : j < 6) (o4 : Option Value) (hc : am_run (d + 2) 107 [.ref 125, .int (nI a)] (am_hp n μ ν) = some (some (.int (nI 61)), h2)) (Q : am_R → Prop) (K : ∀ o4, am_w (d + 2) (Option.none : Option FieldType) am_g106 24 [some (.ref 125), some (.ref x), some (.int (nI 62)), some (.int (nI (j + 1))), o4] [] h2 Q) : am_w (d + 2) (Option.none : Option FieldType) am_g106 24 [some (.ref 125), some (.ref x), some (.int (nI a)), some (.int (nI j)), o4] [] (am_hp n μ ν) (Q) := by
  refine am_q_iload_n rfl rfl ?_
  refine am_q_bipush (v := nI 6) rfl rfl ?_
  refine am_q_igeN rfl (by omega) (by omega) (fun c_27 => absurd c_27 (by omega)) (fun c_27 => ?_)
  refine am_q_iload_n rfl rfl ?_
  refine am_q_aload_n rfl rfl ?_
  refine am_q_gi rfl rfl rfl hs ?_
  refine am_q_igtN rfl (by omega) (by omega) (fun c_35 => absurd c_35 (by omega)) (fun c_35 => ?_)
  refine am_q_aload_n rfl rfl ?_
  refine am_q_iload_n rfl rfl ?_
  refine am_q_call rfl rfl (hc) rfl ?_
  refine am_q_istore [some _, some _, some _, some _, some _] rfl (Nat.le_of_ble_eq_true rfl) rfl ?_
  refine am_q_iload rfl rfl ?_
  refine am_q_bipush (v := nI 61) rfl rfl ?_
  refine am_q_igeN rfl (by omega) (by omega) (fun c_49 => ?_) (fun c_49 => absurd c_49 (by omega))
  refine am_q_iload rfl rfl ?_
  refine am_q_iconst (v := nI 1) rfl rfl ?_
  refine am_q_iadd rfl (nI_add _ _) ?_
  refine am_q_istore_n [some _, some _, some _, some _, some _] rfl (Nat.le_of_ble_eq_true rfl) rfl ?_
  refine am_q_iinc [some _, some _, some _, some _, some _] rfl (c := nI 1) rfl rfl (Nat.le_of_ble_eq_true rfl) (nI_add _ _) rfl ?_
  refine am_q_goto rfl ?_
  exact K _

theorem s_runT (d n sp a j x T : Nat) (μ : am_M2) (ν : am_N2) (μ2 : am_M2) (h3 : am_H) (hs : μ 125 5 = nI sp) (hsp : sp ≤ 60) (ha : a ≤ sp) (hj : j < 6) (hTT : T < 61) (o4 : Option Value) (hc : am_run (d + 2) 107 [.ref 125, .int (nI a)] (am_hp n μ ν) = some (some (.int (nI T)), am_hp n μ2 ν)) (hd : am_run (d + 2) 108 [.ref 125, .int (nI T)] (am_hp n μ2 ν) = some (none, h3)) (Q : am_R → Prop) (K : ∀ o4, am_w (d + 2) (Option.none : Option FieldType) am_g106 24 [some (.ref 125), some (.ref x), some (.int (nI (T + 1))), some (.int (nI (j + 1))), o4] [] h3 Q) : am_w (d + 2) (Option.none : Option FieldType) am_g106 24 [some (.ref 125), some (.ref x), some (.int (nI a)), some (.int (nI j)), o4] [] (am_hp n μ ν) (Q) := by
  refine am_q_iload_n rfl rfl ?_
  refine am_q_bipush (v := nI 6) rfl rfl ?_
  refine am_q_igeN rfl (by omega) (by omega) (fun c_27 => absurd c_27 (by omega)) (fun c_27 => ?_)
  refine am_q_iload_n rfl rfl ?_
  refine am_q_aload_n rfl rfl ?_
  refine am_q_gi rfl rfl rfl hs ?_
  refine am_q_igtN rfl (by omega) (by omega) (fun c_35 => absurd c_35 (by omega)) (fun c_35 => ?_)
  refine am_q_aload_n rfl rfl ?_
  refine am_q_iload_n rfl rfl ?_
  refine am_q_call rfl rfl (hc) rfl ?_
  refine am_q_istore [some _, some _, some _, some _, some _] rfl (Nat.le_of_ble_eq_true rfl) rfl ?_
  refine am_q_iload rfl rfl ?_
  refine am_q_bipush (v := nI 61) rfl rfl ?_
  refine am_q_igeN rfl (by omega) (by omega) (fun c_49 => absurd c_49 (by omega)) (fun c_49 => ?_)
  refine am_q_aload_n rfl rfl ?_
  refine am_q_iload rfl rfl ?_
  refine am_q_call rfl rfl (hd) rfl ?_
  refine am_q_iload rfl rfl ?_
  refine am_q_iconst (v := nI 1) rfl rfl ?_
  refine am_q_iadd rfl (nI_add _ _) ?_
  refine am_q_istore_n [some _, some _, some _, some _, some _] rfl (Nat.le_of_ble_eq_true rfl) rfl ?_
  refine am_q_iinc [some _, some _, some _, some _, some _] rfl (c := nI 1) rfl rfl (Nat.le_of_ble_eq_true rfl) (nI_add _ _) rfl ?_
  refine am_q_goto rfl ?_
  exact K _

theorem s_runL (x : Nat) (d t sp b n : Nat) {V : sVal} {pl : Nat → Option Nat} {μ : am_M2} (ν : am_N2) (hV : xVal μ V) (hO : vOk V) (hsp : sp ≤ 60) (hT : xTb V t sp b μ) (h8 : sPl8 pl) (hst : ∀ s, s < vN V → (pl s).isSome = true → b.testBit s = true) : ∀ (m j a : Nat) (μ1 : am_M2) (o4 : Option Value), j + m = 6 → frR μ μ1 → ((a ≤ sp ∧ xF μ1 (plW V t pl a) (fll V t pl a) ∧ stN V (plW V t pl a) + j ≤ 6) ∨ (sp < a ∧ a ≤ 62 ∧ xF μ1 (plW V t pl sp) (fll V t pl sp))) → am_w (d + 2) (Option.none : Option FieldType) am_g106 24 [some (.ref 125), some (.ref x), some (.int (nI a)), some (.int (nI j)), o4] [] (am_hp n μ1 ν) (fun y => ∃ μ', y = (none, am_hp n μ' ν) ∧ frR μ μ' ∧ xF μ' (plW V t pl sp) (fll V t pl sp)) := by
  have h6 := hO.1.1
  intro m
  induction m with
  | zero =>
    intro j a μ1 o4 hj hf hinv
    have hT1 := xTb_R (fun i q => hf i (by omega)) hT
    rcases hinv with ⟨ha, hF, hc⟩ | ⟨ha, ha2, hF⟩
    · obtain ⟨e1, e2⟩ := plW_never (V := V) (t := t) (pl := pl) ha hsp (nT_none (by omega))
      exact s_run6 d n a j x μ1 ν (by omega) o4 _ ⟨μ1, rfl, hf, xF_cong hF (fun s => by rw [e1]) (fun s => (e2 s).symm)⟩
    · exact s_runB d n sp a j x μ1 ν hT1.1 hsp ha ha2 (by omega) o4 _ ⟨μ1, rfl, hf, hF⟩
  | succ m ih =>
    intro j a μ1 o4 hj hf hinv
    have hT1 := xTb_R (fun i q => hf i (by omega)) hT
    have hV1 := xVal_fr (fr_R hf) hV
    rcases hinv with ⟨ha, hF, hc⟩ | ⟨ha, ha2, hF⟩
    · have h8a : sPl8 (plW V t pl a) := fun s hs p hp => h8 s hs p (plW_none a s p hp)
      obtain ⟨g, hn, hg⟩ := s_nextTurn d t sp b a n ν hV1 hO hsp ha hT1 hF.1 h8a (fun s hs hi => by obtain ⟨p, hp⟩ := Option.isSome_iff_exists.mp hi; exact hst s hs (by rw [plW_none a s p hp]; rfl))
      have hr1 : ∀ i, i ≠ 127 → am_rw μ1 127 g i = μ1 i := fun i hi => by funext k; unfold am_rw; rw [if_neg hi]
      have hf1 : frR μ (am_rw μ1 127 g) := frR_tr hf (fun i q => hr1 i (by omega))
      have hF1 : xF (am_rw μ1 127 g) (plW V t pl a) (fll V t pl a) := ⟨fun s hs => by rw [hr1 128 (by decide)]; exact hF.1 s hs, fun s hs => by rw [hr1 129 (by decide)]; exact hF.2 s hs⟩
      by_cases hl : nT V t sp (plW V t pl a) a (vN V) < 61
      · obtain ⟨t1, t2, t3⟩ := plW_turn (V := V) (t := t) (pl := pl) ha hl hsp
        have t4 := fll_turn (V := V) (t := t) (pl := pl) ha hl hsp
        have t5 := stN_turn (V := V) (t := t) (pl := pl) ha hl hsp
        obtain ⟨u, v, hd, hu, hv⟩ := s_dropAt (d + 1) (nT V t sp (plW V t pl a) a (vN V)) n ν (xVal_fr (fr_R hf1) hV) hO hl (fun s => tnS_le (V := V) (t := t) hsp (plW V t pl a) a s) h8a (by intro s hs hi; show am_rw μ1 127 g 127 s = _; unfold am_rw; rw [if_pos rfl]; exact hg s hs hi) hF1
        refine s_runT d n sp a j x _ μ1 ν _ _ hT1.1 hsp ha (by omega) hl o4 hn hd _ (fun o4 => ?_)
        have hr2 : ∀ i, i ≠ 128 → i ≠ 129 → am_rw (am_rw (am_rw μ1 127 g) 128 u) 129 v i = am_rw μ1 127 g i := fun i h1 h2 => by funext k; unfold am_rw; rw [if_neg h2, if_neg h1]
        refine ih (j + 1) _ _ o4 (by omega) (frR_tr hf1 (fun i q => hr2 i (by omega) (by omega))) (Or.inl ⟨by omega, ⟨fun s hs => ?_, fun s hs => ?_⟩, by omega⟩)
        · rw [t3 s]; exact hu s hs
        · rw [t4 s]; exact hv s hs
      · have hl61 : nT V t sp (plW V t pl a) a (vN V) = 61 := by
          have := (nT_le (V := V) (t := t) (sp := sp) (q := plW V t pl a) (a := a) (vN V)).1
          omega
        obtain ⟨e1, e2⟩ := plW_never (V := V) (t := t) (pl := pl) ha hsp hl61
        rw [hl61] at hn
        refine s_runN d n sp a j x μ1 ν _ hT1.1 hsp ha (by omega) o4 hn _ (fun o4 => ?_)
        exact ih (j + 1) 62 _ o4 (by omega) hf1 (Or.inr ⟨by omega, Nat.le_refl _, xF_cong hF1 (fun s => by rw [e1]) (fun s => (e2 s).symm)⟩)
    · exact s_runB d n sp a j x μ1 ν hT1.1 hsp ha ha2 (by omega) o4 _ ⟨μ1, rfl, hf, hF⟩
/-- StoneSecrets$Future.run([I)V -/
theorem s_run37 (d : Nat) (t sp b n : Nat) {V : sVal} {pl : Nat → Option Nat} {μ : am_M2} (ν : am_N2) (hV : xVal μ V) (hO : vOk V) (hsp : sp ≤ 60) (hT : xTb V t sp b μ) (h8 : sPl8 pl) (hst : ∀ s, s < vN V → (pl s).isSome = true → b.testBit s = true) (hg : ∀ s, s < 6 → μ 37 s = sn_spot (pl s)) : ∃ (μ' : am_M2), am_run (d + 3) 106 [.ref 125, .ref 37] (am_hp n μ ν) = some (none, am_hp n μ' ν) ∧ frR μ μ' ∧ xF μ' (plW V t pl sp) (fll V t pl sp) := by
  have key : ∃ r, am_run (d + 3) 106 [.ref 125, .ref 37] (am_hp n μ ν) = some r ∧ ∃ (μ' : am_M2), r = (none, am_hp n μ' ν) ∧ frR μ μ' ∧ xF μ' (plW V t pl sp) (fll V t pl sp) := am_run_wE (k := 106) (d := d + 2) rfl rfl (Nat.le_of_ble_eq_true rfl) [some (.ref 125), some (.ref 37), none, none, none] rfl (by
    refine am_q_aload_n rfl rfl ?_
    refine am_q_iconst (v := nI 0) rfl rfl ?_
    refine am_q_aload_n rfl rfl ?_
    refine am_q_gr rfl rfl rfl ?_
    refine am_q_iconst (v := nI 0) rfl rfl ?_
    refine am_q_bipush (v := nI 6) rfl rfl ?_
    refine am_q_copy rfl rfl rfl (by decide) (by decide) (by decide) (by decide) (Nat.le_of_ble_eq_true rfl) ?_
    refine am_q_aload_n rfl rfl ?_
    refine am_q_gr rfl rfl rfl ?_
    refine am_q_iconst (v := nI 0) rfl rfl ?_
    refine am_q_call rfl rfl (s_fill _ n 129 6 (nI 0) _ ν _ rfl (by decide)) rfl ?_
    refine am_q_iconst (v := nI 0) rfl rfl ?_
    refine am_q_istore_n [some _, some _, some _, none, none] rfl (Nat.le_of_ble_eq_true rfl) rfl ?_
    refine am_q_iconst (v := nI 0) rfl rfl ?_
    refine am_q_istore_n [some _, some _, some _, some _, none] rfl (Nat.le_of_ble_eq_true rfl) rfl ?_
    have hrr : ∀ i, i ≠ 128 → i ≠ 129 → am_fl (am_rw μ 128 (fun k => if k < 6 then μ 37 k else μ 128 k)) 129 (nI 0) 6 i = μ i := fun i h1 h2 => by funext k; unfold am_fl am_rw; rw [if_neg h2, if_neg h1]
    exact s_runL 37 d t sp b n ν hV hO hsp hT h8 hst 6 0 0 _ _ (by omega) (fun i q => hrr i (by omega) (by omega)) (Or.inl ⟨Nat.zero_le _, ⟨fun s hs => by unfold am_fl am_rw; rw [if_neg (by decide), if_pos rfl]; dsimp only; rw [if_pos hs]; exact hg s hs, fun s hs => by unfold am_fl; rw [if_pos rfl, if_pos hs]; rfl⟩, stN_le hO.1.1 _⟩))
  obtain ⟨r, h1, μ', h2, h3⟩ := key
  exact ⟨μ', by rw [h1, h2], h3⟩

/-- StoneSecrets$Future.run([I)V -/
theorem s_run123 (d : Nat) (t sp b n : Nat) {V : sVal} {pl : Nat → Option Nat} {μ : am_M2} (ν : am_N2) (hV : xVal μ V) (hO : vOk V) (hsp : sp ≤ 60) (hT : xTb V t sp b μ) (h8 : sPl8 pl) (hst : ∀ s, s < vN V → (pl s).isSome = true → b.testBit s = true) (hg : ∀ s, s < 6 → μ 123 s = sn_spot (pl s)) : ∃ (μ' : am_M2), am_run (d + 3) 106 [.ref 125, .ref 123] (am_hp n μ ν) = some (none, am_hp n μ' ν) ∧ frR μ μ' ∧ xF μ' (plW V t pl sp) (fll V t pl sp) := by
  have key : ∃ r, am_run (d + 3) 106 [.ref 125, .ref 123] (am_hp n μ ν) = some r ∧ ∃ (μ' : am_M2), r = (none, am_hp n μ' ν) ∧ frR μ μ' ∧ xF μ' (plW V t pl sp) (fll V t pl sp) := am_run_wE (k := 106) (d := d + 2) rfl rfl (Nat.le_of_ble_eq_true rfl) [some (.ref 125), some (.ref 123), none, none, none] rfl (by
    refine am_q_aload_n rfl rfl ?_
    refine am_q_iconst (v := nI 0) rfl rfl ?_
    refine am_q_aload_n rfl rfl ?_
    refine am_q_gr rfl rfl rfl ?_
    refine am_q_iconst (v := nI 0) rfl rfl ?_
    refine am_q_bipush (v := nI 6) rfl rfl ?_
    refine am_q_copy rfl rfl rfl (by decide) (by decide) (by decide) (by decide) (Nat.le_of_ble_eq_true rfl) ?_
    refine am_q_aload_n rfl rfl ?_
    refine am_q_gr rfl rfl rfl ?_
    refine am_q_iconst (v := nI 0) rfl rfl ?_
    refine am_q_call rfl rfl (s_fill _ n 129 6 (nI 0) _ ν _ rfl (by decide)) rfl ?_
    refine am_q_iconst (v := nI 0) rfl rfl ?_
    refine am_q_istore_n [some _, some _, some _, none, none] rfl (Nat.le_of_ble_eq_true rfl) rfl ?_
    refine am_q_iconst (v := nI 0) rfl rfl ?_
    refine am_q_istore_n [some _, some _, some _, some _, none] rfl (Nat.le_of_ble_eq_true rfl) rfl ?_
    have hrr : ∀ i, i ≠ 128 → i ≠ 129 → am_fl (am_rw μ 128 (fun k => if k < 6 then μ 123 k else μ 128 k)) 129 (nI 0) 6 i = μ i := fun i h1 h2 => by funext k; unfold am_fl am_rw; rw [if_neg h2, if_neg h1]
    exact s_runL 123 d t sp b n ν hV hO hsp hT h8 hst 6 0 0 _ _ (by omega) (fun i q => hrr i (by omega) (by omega)) (Or.inl ⟨Nat.zero_le _, ⟨fun s hs => by unfold am_fl am_rw; rw [if_neg (by decide), if_pos rfl]; dsimp only; rw [if_pos hs]; exact hg s hs, fun s hs => by unfold am_fl; rw [if_pos rfl, if_pos hs]; rfl⟩, stN_le hO.1.1 _⟩))
  obtain ⟨r, h1, μ', h2, h3⟩ := key
  exact ⟨μ', by rw [h1, h2], h3⟩

theorem fll_le (V : sVal) (t : Nat) (pl : Nat → Option Nat) : ∀ a s, fll V t pl a s ≤ a
  | 0, _ => Nat.le_refl _
  | a + 1, s => by
    have := fll_le V t pl a s
    rw [fll]
    split <;> omega
theorem plW_dn {V : sVal} {t : Nat} {pl : Nat → Option Nat} {a s : Nat} (h : plW V t pl a s = none) : ∀ m, plW V t pl (a + m) s = none
  | 0 => h
  | m + 1 => by
    rw [← Nat.add_assoc, plW]
    unfold wkPl
    rw [plW_dn h m, ite_self, ite_self]
/-- stands behind w WEEKS -/
theorem sb_iff {V : sVal} {t : Nat} {pl : Nat → Option Nat} {w s : Nat} : ∀ sp, w ≤ sp → (((plW V t pl sp s).isSome = true ∨ w < fll V t pl sp s) ↔ (plW V t pl w s).isSome = true)
  | 0, h => by
    have : w = 0 := by omega
    subst this
    simp [fll]
  | sp + 1, h => by
    by_cases z : w = sp + 1
    · subst z
      have := fll_le V t pl (sp + 1) s
      constructor
      · rintro (q | q)
        · exact q
        · omega
      · exact fun q => Or.inl q
    · have ih := sb_iff (V := V) (t := t) (pl := pl) (w := w) (s := s) sp (by omega)
      rw [← ih, fll]
      have hd : plW V t pl sp s = none → plW V t pl (sp + 1) s = none := fun q => plW_dn q 1
      cases h1 : plW V t pl (sp + 1) s with
      | some p =>
        cases h2 : plW V t pl sp s with
        | none => rw [hd h2] at h1; cases h1
        | some q => simp
      | none =>
        cases h2 : plW V t pl sp s with
        | none => simp
        | some q => simp; omega
theorem s_sbL (d : Nat) (t sp w n : Nat) {V : sVal} {pl : Nat → Option Nat} {μ : am_M2} (ν : am_N2) (hV : xVal μ V) (hO : vOk V) (hsp : sp ≤ 60) (hw : w ≤ sp) (h8 : sPl8 pl) (hF : xF μ (plW V t pl sp) (fll V t pl sp)) : ∀ (m j : Nat) , j + m = vN V → am_w (d + 0) (Option.some FieldType.int) am_g111 4 [some (.ref 125), some (.int (nI w)), some (.int (nI (sBits (fun s => (plW V t pl w s).isSome) j))), some (.int (nI j))] [] (am_hp n μ ν) (fun y => y = (some (.int (nI (sBits (fun s => (plW V t pl w s).isSome) (vN V)))), am_hp n μ ν)) := by
  intro m
  induction m with
  | zero =>
    intro j  hj
    have h6 := hO.1.1
    refine am_q_iload_n rfl rfl ?_
    refine am_q_aload_n rfl rfl ?_
    refine am_q_gr rfl rfl rfl ?_
    refine am_q_gi rfl rfl rfl hV.1.1 ?_
    refine am_q_igeN rfl (by omega) (by omega) (fun c_12 => ?_) (fun c_12 => absurd c_12 (by omega))
    refine am_q_iload_n rfl rfl ?_
    refine am_q_ireturn rfl rfl rfl ?_
    rw [show j = vN V by omega]
  | succ m ih =>
    intro j  hj
    have h6 := hO.1.1
    have hfl := fll_le V t pl sp j
    have e := ih (j + 1) (by omega)
    rw [sBits_s] at e
    have hif := sb_iff (V := V) (t := t) (pl := pl) (s := j) sp hw
    refine am_q_iload_n rfl rfl ?_
    refine am_q_aload_n rfl rfl ?_
    refine am_q_gr rfl rfl rfl ?_
    refine am_q_gi rfl rfl rfl hV.1.1 ?_
    refine am_q_igeN rfl (by omega) (by omega) (fun c_12 => absurd c_12 (by omega)) (fun c_12 => ?_)
    refine am_q_aload_n rfl rfl ?_
    refine am_q_gr rfl rfl rfl ?_
    refine am_q_iload_n rfl rfl ?_
    refine am_q_iald rfl rfl (by first | exact am_ix_nI (by omega) (by omega) | rfl) (hF.1 _ (by omega)) ?_
    refine am_q_if_ne rfl (fun c_21 => ?_) (fun c_21 => ?_)
    · obtain ⟨p, hp⟩ := sn_spot_n0 c_21
      rw [if_pos (hif.mp (Or.inl (by rw [hp]; rfl)))] at e
      refine am_q_iload_n rfl rfl ?_
      refine am_q_iconst (v := nI 1) rfl rfl ?_
      refine am_q_iload_n rfl rfl ?_
      refine am_q_ishl rfl (sn_shl1 (by omega)) ?_
      refine am_q_ior rfl (sn_or _ _) ?_
      refine am_q_istore_n [some _, some _, some _, some _] rfl (Nat.le_of_ble_eq_true rfl) rfl ?_
      refine am_q_iinc [some _, some _, some _, some _] rfl (c := nI 1) rfl rfl (Nat.le_of_ble_eq_true rfl) (nI_add _ _) rfl ?_
      refine am_q_goto rfl ?_
      exact e
    · have hz := sn_spot_0 (fun p hp => h8 j (by omega) p (plW_none sp j p hp)) c_21
      refine am_q_aload_n rfl rfl ?_
      refine am_q_gr rfl rfl rfl ?_
      refine am_q_iload_n rfl rfl ?_
      refine am_q_iald rfl rfl (by first | exact am_ix_nI (by omega) (by omega) | rfl) (hF.2 _ (by omega)) ?_
      refine am_q_iload_n rfl rfl ?_
      refine am_q_ileN rfl (by omega) (by omega) (fun c_31 => ?_) (fun c_31 => ?_)
      · rw [if_neg (fun q => by rcases hif.mpr q with q | q; rw [hz] at q; cases q; omega)] at e
        refine am_q_iinc [some _, some _, some _, some _] rfl (c := nI 1) rfl rfl (Nat.le_of_ble_eq_true rfl) (nI_add _ _) rfl ?_
        refine am_q_goto rfl ?_
        exact e
      · rw [if_pos (hif.mp (Or.inr c_31))] at e
        refine am_q_iload_n rfl rfl ?_
        refine am_q_iconst (v := nI 1) rfl rfl ?_
        refine am_q_iload_n rfl rfl ?_
        refine am_q_ishl rfl (sn_shl1 (by omega)) ?_
        refine am_q_ior rfl (sn_or _ _) ?_
        refine am_q_istore_n [some _, some _, some _, some _] rfl (Nat.le_of_ble_eq_true rfl) rfl ?_
        refine am_q_iinc [some _, some _, some _, some _] rfl (c := nI 1) rfl rfl (Nat.le_of_ble_eq_true rfl) (nI_add _ _) rfl ?_
        refine am_q_goto rfl ?_
        exact e

/-- StoneSecrets$Future.standingBehind(I)I -/
theorem s_sb (d : Nat) (t sp w n : Nat) {V : sVal} {pl : Nat → Option Nat} {μ : am_M2} (ν : am_N2) (hV : xVal μ V) (hO : vOk V) (hsp : sp ≤ 60) (hw : w ≤ sp) (h8 : sPl8 pl) (hF : xF μ (plW V t pl sp) (fll V t pl sp)) : am_run (d + 1) 111 [.ref 125, .int (nI w)] (am_hp n μ ν) = some (some (.int (nI (sBits (fun s => (plW V t pl w s).isSome) (vN V)))), am_hp n μ ν) := by
  refine am_r111 (d := d + 0) (Nat.le_of_ble_eq_true rfl) [some (.ref 125), some (.int (nI w)), none, none] rfl ?_
  refine am_q_iconst (v := nI 0) rfl rfl ?_
  refine am_q_istore_n [some _, some _, some _, none] rfl (Nat.le_of_ble_eq_true rfl) rfl ?_
  refine am_q_iconst (v := nI 0) rfl rfl ?_
  refine am_q_istore_n [some _, some _, some _, some _] rfl (Nat.le_of_ble_eq_true rfl) rfl ?_
  exact s_sbL d t sp w n ν hV hO hsp hw h8 hF (vN V) 0 (by omega)
