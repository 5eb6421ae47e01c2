theorem s_nextB (d : Nat) (n : Nat) {V : sVal} {ms : List Nat} {μ : am_M2} (ν : am_N2) (hV : xVal μ V) (hO : vOk V) (hM : xMv μ ms) (hm : msOk V ms) (fs : List Fm) (hl : fs.length = ms.length) (hb : μ 120 6 = nI 1) (hF : xFs V ms μ fs) (hS : xSp ms μ fs) (hw : wrk ms.length fs ≤ 1000000) : am_w (d + 4) (Option.some FieldType.boolean) am_g119 0 [some (.ref 120), none, none, none, none] [] (am_hp n μ ν) (nQ V ms n ν μ (remL V ms fs)) := by
  have hm1 := hm.1
  refine am_q_aload_n rfl rfl ?_
  refine am_q_gi rfl rfl rfl hb ?_
  refine am_q_zeqN rfl (by omega) (fun c_4 => absurd c_4 (by omega)) (fun c_4 => ?_)
  refine am_q_aload_n rfl rfl ?_
  refine am_q_gi rfl rfl rfl hM.1 ?_
  refine am_q_iconst (v := nI 1) rfl rfl ?_
  refine am_q_isub rfl (show nI ms.length - nI 1 = dI fs.length by rw [← hl]; cases fs with | nil => rfl | cons f fs => exact nI_pred _) ?_
  refine am_q_goto rfl ?_
  refine am_q_istore_n [some _, some _, none, none, none] rfl (Nat.le_of_ble_eq_true rfl) rfl ?_
  refine am_q_aload_n rfl rfl ?_
  refine am_q_gi rfl rfl rfl hb ?_
  refine am_q_zneN rfl (by omega) (fun c_22 => ?_) (fun c_22 => absurd c_22 (by omega))
  refine am_q_iconst (v := nI 0) rfl rfl ?_
  refine am_q_istore_n [some _, some _, some _, none, none] rfl (Nat.le_of_ble_eq_true rfl) rfl ?_
  exact s_nextL d n ν hO hm 1000000 0 fs μ none none (by omega) hw hV hM hb hF hS

theorem s_nextA0 (d : Nat) (n : Nat) {V : sVal} {ms : List Nat} {μ : am_M2} (ν : am_N2) (hV : xVal μ V) (hO : vOk V) (hM : xMv μ ms) (hm : msOk V ms) (pl : Nat → Option Nat) (hp : pOk V pl) (hn : ∀ i, i < ms.length → pl (mg ms i) = none) (hs : ∀ s, s < 6 → μ 123 s = sn_spot (pl s)) (hb : μ 120 6 = nI 0) (hz : ms = []) : am_w (d + 4) (Option.some FieldType.boolean) am_g119 0 [some (.ref 120), none, none, none, none] [] (am_hp n μ ν) (nQ V ms n ν μ (waysL V ms pl)) := by
  have hm1 := hm.1
  have hf1 : frW μ (am_up μ 120 6 (nI 1)) := frW_up (by omega)
  have hV1 := xVal_fr (fr_W hf1) hV
  have hM1 : xMv (am_up μ 120 6 (nI 1)) ms := xMv_ne rfl (fun k => rfl) hM
  subst hz
  refine am_q_aload_n rfl rfl ?_
  refine am_q_gi rfl rfl rfl hb ?_
  refine am_q_zeqN rfl (by omega) (fun c_4 => ?_) (fun c_4 => absurd c_4 (by omega))
  refine am_q_iconst (v := nI 0) rfl rfl ?_
  refine am_q_istore_n [some _, some _, none, none, none] rfl (Nat.le_of_ble_eq_true rfl) rfl ?_
  refine am_q_aload_n rfl rfl ?_
  refine am_q_gi rfl rfl rfl hb ?_
  refine am_q_zneN rfl (by omega) (fun c_22 => absurd c_22 (by omega)) (fun c_22 => ?_)
  refine am_q_aload_n rfl rfl ?_
  refine am_q_iconst (v := nI 1) rfl rfl ?_
  refine am_q_pi rfl rfl rfl (Or.inr ⟨rfl, Or.inr rfl⟩) ?_
  refine am_q_aload_n rfl rfl ?_
  refine am_q_iload_n rfl rfl ?_
  refine am_q_call rfl rfl (s_enter0 _ n 0 0 _ ν hM1.1 (by omega) (by omega)) rfl ?_
  refine am_q_iconst (v := nI 0) rfl rfl ?_
  refine am_q_istore_n [some _, some _, some _, none, none] rfl (Nat.le_of_ble_eq_true rfl) rfl ?_
  exact s_nextF d n 0 0 _ ν hM1.1 (by omega) (by omega) _ _ _ ⟨_, hf1, Or.inr ⟨pl, [], rfl, rfl, ⟨hM1, Or.inl ⟨rfl, [], rfl, trivial, trivial, rfl, Nat.zero_le _⟩⟩, hs⟩⟩

theorem wB_le : ∀ m, m < 6 → wB m ≤ 400000 := by decide
theorem wrk_1 {V : sVal} (hO : vOk V) {M : Nat} (h0 : 0 < M) (hM : M ≤ 6) (pl : Nat → Option Nat) (s : Nat) : wrk M [(sOpen V pl s, pl)] ≤ 1000000 := by
  have hb8 := bl_len _ (sOpen_256 hO pl s)
  have h1 := wB_le (M - 1) (by omega)
  rw [wB_C] at h1
  have h2 := Nat.mul_le_mul hb8 (Nat.le_refl (1 + wC (M - 1)))
  show 1 + (bl (sOpen V pl s)).length * (1 + wC (M - 0 - 1)) + 0 ≤ _
  rw [Nat.sub_zero]
  omega
theorem s_nextA1 (d : Nat) (n : Nat) {V : sVal} {ms : List Nat} {μ : am_M2} (ν : am_N2) (hV : xVal μ V) (hO : vOk V) (hM : xMv μ ms) (hm : msOk V ms) (pl : Nat → Option Nat) (hp : pOk V pl) (hn : ∀ i, i < ms.length → pl (mg ms i) = none) (hs : ∀ s, s < 6 → μ 123 s = sn_spot (pl s)) (hb : μ 120 6 = nI 0) (hz : 0 < ms.length) : am_w (d + 4) (Option.some FieldType.boolean) am_g119 0 [some (.ref 120), none, none, none, none] [] (am_hp n μ ν) (nQ V ms n ν μ (waysL V ms pl)) := by
  have hm1 := hm.1
  have hf1 : frW μ (am_up μ 120 6 (nI 1)) := frW_up (by omega)
  have hV1 := xVal_fr (fr_W hf1) hV
  have hM1 : xMv (am_up μ 120 6 (nI 1)) ms := xMv_ne rfl (fun k => rfl) hM
  refine am_q_aload_n rfl rfl ?_
  refine am_q_gi rfl rfl rfl hb ?_
  refine am_q_zeqN rfl (by omega) (fun c_4 => ?_) (fun c_4 => absurd c_4 (by omega))
  refine am_q_iconst (v := nI 0) rfl rfl ?_
  refine am_q_istore_n [some _, some _, none, none, none] rfl (Nat.le_of_ble_eq_true rfl) rfl ?_
  refine am_q_aload_n rfl rfl ?_
  refine am_q_gi rfl rfl rfl hb ?_
  refine am_q_zneN rfl (by omega) (fun c_22 => absurd c_22 (by omega)) (fun c_22 => ?_)
  refine am_q_aload_n rfl rfl ?_
  refine am_q_iconst (v := nI 1) rfl rfl ?_
  refine am_q_pi rfl rfl rfl (Or.inr ⟨rfl, Or.inr rfl⟩) ?_
  refine am_q_aload_n rfl rfl ?_
  refine am_q_iload_n rfl rfl ?_
  refine am_q_call rfl rfl (s_enter1 d n ν hV1 hO hM1 hm 0 hz hs (pOk_8 hO hp)) rfl ?_
  refine am_q_iconst (v := nI 0) rfl rfl ?_
  refine am_q_istore_n [some _, some _, some _, none, none] rfl (Nat.le_of_ble_eq_true rfl) rfl ?_
  have hf2 : frW μ (am_up (am_up μ 120 6 (nI 1)) 122 0 (nI (sOpen V pl (mg ms 0)))) := frW_tr hf1 (frW_up (by omega))
  have e := s_nextL d n ν hO hm 1000000 0 [(sOpen V pl (mg ms 0), pl)] _ none none (by omega) (wrk_1 hO hz hm1 pl _) (xVal_fr (fr_W hf2) hV) (xMv_ne rfl (fun k => rfl) hM1) rfl ⟨rfl, sOpen_256 hO _ _, hz, fun p hp => hp, fun i _ hi => hn i hi, hp, trivial, trivial⟩ (fun s h _ => hs s h)
  have hr : remL V ms [(sOpen V pl (mg ms 0), pl)] = waysL V ms pl := by
    have := drop_mg hz
    rw [List.drop_zero] at this
    conv => rhs; rw [this, waysL]
    rw [remL, remL, List.append_nil]; rfl
  rw [hr] at e
  exact am_w_mono (fun y ⟨μ', hf', hy⟩ => ⟨μ', frW_tr hf2 hf', hy⟩) e

theorem s_next (d n : Nat) {V : sVal} {ms : List Nat} {μ : am_M2} (ν : am_N2) (hV : xVal μ V) (hO : vOk V) (hm : msOk V ms) {ws : List (Nat → Option Nat)} (h : xIt V ms μ ws) : ∃ r, am_run (d + 5) 119 [.ref 120] (am_hp n μ ν) = some r ∧ nQ V ms n ν μ ws r := by
  refine am_run_wE (k := 119) (d := d + 4) rfl rfl (Nat.le_of_ble_eq_true rfl) [some (.ref 120), none, none, none, none] rfl ?_
  obtain ⟨hM, ⟨hb, fs, h1, h2, h3, h4, h5⟩ | ⟨hb, pl, h1, h2, h3, h4⟩⟩ := h
  · rw [← h4]; exact s_nextB d n ν hV hO hM hm fs h1 hb h2 h3 h5
  · rw [h1]
    by_cases hz : 0 < ms.length
    · exact s_nextA1 d n ν hV hO hM hm pl h2 h3 h4 hb hz
    · exact s_nextA0 d n ν hV hO hM hm pl h2 h3 h4 hb (List.eq_nil_of_length_eq_zero (by omega))
theorem s_nextNW (d n : Nat) {V : sVal} {ms : List Nat} {μ : am_M2} (ν : am_N2) (hV : xVal μ V) (hO : vOk V) (hm : msOk V ms) (h : xIt V ms μ []) : ∃ μ', am_run (d + 5) 119 [.ref 120] (am_hp n μ ν) = some (some (.int (sB false)), am_hp n μ' ν) ∧ frW μ μ' := by
  obtain ⟨r, h1, μ', hf, ⟨-, h2⟩ | ⟨pl, vs, h2, -⟩⟩ := s_next d n ν hV hO hm h
  · exact ⟨μ', by rw [h1, h2], hf⟩
  · cases h2
theorem s_nextN (d n : Nat) {V : sVal} {ms : List Nat} {μ : am_M2} (ν : am_N2) (hV : xVal μ V) (hO : vOk V) (hm : msOk V ms) (h : xIt V ms μ []) : ∃ μ', am_run (d + 5) 119 [.ref 120] (am_hp n μ ν) = some (some (.int (sB false)), am_hp n μ' ν) ∧ fr μ μ' := by
  obtain ⟨r, h1, μ', hf, ⟨-, h2⟩ | ⟨pl, vs, h2, -⟩⟩ := s_next d n ν hV hO hm h
  · exact ⟨μ', by rw [h1, h2], fr_W hf⟩
  · cases h2
theorem s_nextCW (d n : Nat) {V : sVal} {ms : List Nat} {μ : am_M2} (ν : am_N2) (hV : xVal μ V) (hO : vOk V) (hm : msOk V ms) {pl : Nat → Option Nat} {vs : List (Nat → Option Nat)} (h : xIt V ms μ (pl :: vs)) : ∃ μ', am_run (d + 5) 119 [.ref 120] (am_hp n μ ν) = some (some (.int (sB true)), am_hp n μ' ν) ∧ frW μ μ' ∧ xIt V ms μ' vs ∧ ∀ s, s < 6 → μ' 123 s = sn_spot (pl s) := by
  obtain ⟨r, h1, μ', hf, ⟨h2, -⟩ | ⟨pl', vs', h2, h3, h4, h5⟩⟩ := s_next d n ν hV hO hm h
  · cases h2
  · cases h2; exact ⟨μ', by rw [h1, h3], hf, h4, h5⟩
theorem s_nextC (d n : Nat) {V : sVal} {ms : List Nat} {μ : am_M2} (ν : am_N2) (hV : xVal μ V) (hO : vOk V) (hm : msOk V ms) {pl : Nat → Option Nat} {vs : List (Nat → Option Nat)} (h : xIt V ms μ (pl :: vs)) : ∃ μ', am_run (d + 5) 119 [.ref 120] (am_hp n μ ν) = some (some (.int (sB true)), am_hp n μ' ν) ∧ fr μ μ' ∧ xIt V ms μ' vs ∧ ∀ s, s < 6 → μ' 123 s = sn_spot (pl s) := by
  obtain ⟨μ', h1, h2, h3⟩ := s_nextCW d n ν hV hO hm h
  exact ⟨μ', h1, fr_W h2, h3⟩
theorem msOk_mv {V : sVal} {b : Nat} (hb : ∀ s, b.testBit s = true → s < vN V) (h6 : vN V ≤ 6) : msOk V (mvL b 6) := by
  refine ⟨mvL_len b 6, fun i hi => ?_, fun i j hi hj e => ?_⟩
  · rw [mg_eq hi]; exact hb _ ((mvL_mem b 6 _).mp (List.getElem_mem hi)).2
  · rw [mg_eq hi, mg_eq hj] at e
    exact (List.getElem_inj (mvL_nd b 6)).mp e
/-- begun -/
theorem s_wbegin2W (d n : Nat) {V : sVal} {pl : Nat → Option Nat} {μ : am_M2} (ν : am_N2) (h6 : vN V ≤ 6) (hp : pOk V pl) (lo st : Nat) (hl : lo < 64) (hs : st < 64) (hlo : ∀ s, lo.testBit s = true → s < vN V) (hd : ∀ s, lo.testBit s = true → st.testBit s = false) (hg : ∀ k, k < 6 → μ 37 k = sn_spot (pl k)) : ∃ μ', am_run (d + 2) 118 [.ref 120, .ref 37, .int (nI lo), .int (nI st)] (am_hp n μ ν) = some (none, am_hp n μ' ν) ∧ frW μ μ' ∧ msOk V (mvL lo 6) ∧ xIt V (mvL lo 6) μ' (waysL V (mvL lo 6) (stP pl st)) := by
  obtain ⟨μ', h1, h2, h3, h4, h5⟩ := s_wbegin d n ν lo st hl hs hg
  refine ⟨μ', h1, h2, msOk_mv hlo h6, h3, Or.inr ⟨h4, stP pl st, rfl, fun s hs => ?_, fun i hi => ?_, h5⟩⟩
  · obtain ⟨a1, a2, a3⟩ := hp s hs
    unfold stP
    split
    · refine ⟨a1, a2, fun s' hs' hne hnn => ?_⟩
      split
      · exact a3 s' hs' hne hnn
      · exact hnn
    · exact ⟨fun p h => (by cases h), fun _ => rfl, fun s' _ _ h => absurd rfl h⟩
  · rw [mg_eq hi, stP, if_neg]
    rw [hd _ ((mvL_mem lo 6 _).mp (List.getElem_mem hi)).2]
    decide
theorem s_wbegin2 (d n : Nat) {V : sVal} {pl : Nat → Option Nat} {μ : am_M2} (ν : am_N2) (h6 : vN V ≤ 6) (hp : pOk V pl) (lo st : Nat) (hl : lo < 64) (hs : st < 64) (hlo : ∀ s, lo.testBit s = true → s < vN V) (hd : ∀ s, lo.testBit s = true → st.testBit s = false) (hg : ∀ k, k < 6 → μ 37 k = sn_spot (pl k)) : ∃ μ', am_run (d + 2) 118 [.ref 120, .ref 37, .int (nI lo), .int (nI st)] (am_hp n μ ν) = some (none, am_hp n μ' ν) ∧ fr μ μ' ∧ msOk V (mvL lo 6) ∧ xIt V (mvL lo 6) μ' (waysL V (mvL lo 6) (stP pl st)) := by
  obtain ⟨μ', h1, h2, h3⟩ := s_wbegin2W d n ν h6 hp lo st hl hs hlo hd hg
  exact ⟨μ', h1, fr_W h2, h3⟩