def suM (ws : List (Nat → Option Nat)) (k : Nat) : Nat → Option Nat := lpF (fun p x => if tmN ws k p = ws.length then some p else x) none
theorem suM_s (ws : List (Nat → Option Nat)) (k p : Nat) : suM ws k (p + 1) = if tmN ws k p = ws.length then some p else suM ws k p := rfl
theorem suM_lt (ws : List (Nat → Option Nat)) (k : Nat) : ∀ P p, suM ws k P = some p → p < P ∧ tmN ws k p = ws.length
  | 0, p, h => by cases h
  | P + 1, p, h => by
    rw [suM_s] at h
    by_cases c : tmN ws k P = ws.length
    · rw [if_pos c] at h; cases h; exact ⟨by omega, c⟩
    · rw [if_neg c] at h; have := suM_lt ws k P p h; exact ⟨by omega, this.2⟩
theorem tmN_all {ws : List (Nat → Option Nat)} {k p : Nat} : tmN ws k p = ws.length ↔ ∀ w, w ∈ ws → w k = some p := by
  unfold tmN
  rw [List.length_filter_eq_length_iff]
  exact ⟨fun h w hw => of_decide_eq_true (h w hw), fun h w hw => decide_eq_true (h w hw)⟩
theorem suM_no {ws : List (Nat → Option Nat)} {k : Nat} : ∀ P, (∀ p, p < P → ¬ tmN ws k p = ws.length) → suM ws k P = none
  | 0, _ => rfl
  | P + 1, h => by rw [suM_s, if_neg (h P (by omega))]; exact suM_no P (fun p hp => h p (by omega))
theorem suM_yes {ws : List (Nat → Option Nat)} {k p : Nat} (hp : tmN ws k p = ws.length) (hne : 0 < ws.length) : ∀ P, p < P → suM ws k P = some p
  | 0, h => by omega
  | P + 1, h => by
    rw [suM_s]
    by_cases c : tmN ws k P = ws.length
    · rw [if_pos c]
      obtain ⟨w, hw⟩ := List.exists_mem_of_length_pos hne
      have e := (tmN_all.mp c w hw).symm.trans (tmN_all.mp hp w hw)
      rw [e]
    · rw [if_neg c]
      by_cases e : p = P
      · rw [e] at hp; exact absurd hp c
      · exact suM_yes hp hne P (by omega)
theorem sureF_t (k : Nat) : ∀ (vs : List (Nat → Option Nat)) (q : Option Nat), sureF k true q vs = if (∀ w, w ∈ vs → w k = q) then q else none
  | [], q => by rw [if_pos (fun w hw => by cases hw)]; rfl
  | w :: vs, q => by
    have e : sureF k true q (w :: vs) = if true = false ∨ w k = q then sureF k true (w k) vs else none := rfl
    rw [e]
    by_cases h : w k = q
    · rw [if_pos (Or.inr h), sureF_t k vs, h]
      by_cases c : ∀ x, x ∈ vs → x k = q
      · rw [if_pos c, if_pos (fun x hx => by rcases List.mem_cons.mp hx with z | z; rw [z]; exact h; exact c x z)]
      · rw [if_neg c, if_neg (fun z => c (fun x hx => z x (List.mem_cons_of_mem _ hx)))]
    · rw [if_neg (fun z => by rcases z with z | z; cases z; exact h z), if_neg (fun z => h (z w List.mem_cons_self))]
theorem sure_m {V : sVal} {ws : List (Nat → Option Nat)} {k : Nat} (hne : 0 < ws.length) (hall : ∀ w, w ∈ ws → pOk V w) (hk : k < 6) : suM ws k (vP V) = sureF k false none ws := by
  match ws, hne with
  | w :: vs, _ =>
    have e : sureF k false none (w :: vs) = sureF k true (w k) vs := if_pos (Or.inl rfl)
    rw [e, sureF_t]
    by_cases c : ∀ x, x ∈ vs → x k = w k
    · rw [if_pos c]
      have hc : ∀ x, x ∈ w :: vs → x k = w k := fun x hx => by rcases List.mem_cons.mp hx with z | z; rw [z]; exact c x z
      cases hq : w k with
      | none => exact suM_no _ (fun p hp z => by have := tmN_all.mp z w List.mem_cons_self; rw [hq] at this; cases this)
      | some p => exact suM_yes (tmN_all.mpr (fun x hx => (hc x hx).trans hq)) (by simp) _ ((hall w List.mem_cons_self k hk).1 p hq)
    · rw [if_neg c]
      exact suM_no _ (fun p hp z => c (fun x hx => (tmN_all.mp z x (List.mem_cons_of_mem _ hx)).trans (tmN_all.mp z w List.mem_cons_self).symm))
theorem qSure_m {V : sVal} {W : sWall} {k : Nat} (hO : vOk V) (hI : sI (vN V) (vP V) W.1 W.2.1) (hk : k < vN V) : qSure V W (nI k) = if 0 < (waysOf V W).length then sn_place (suM (waysOf V W) k (vP V)) else -1 := by
  have h6 := hO.1.1
  have hall := waysL_all (st := sSt V W) (sI_p hI) (sLo_N (V := V) (W := W))
  unfold qSure
  by_cases hne : 0 < (waysOf V W).length
  · rw [if_pos hne]
    cases hs : isSto V W (nI k) with
    | true => rw [if_pos rfl, ik_nI (by omega), sure_m hne hall (by omega)]
    | false =>
      rw [if_neg Bool.false_ne_true]
      obtain ⟨w, hw⟩ := List.exists_mem_of_length_pos hne
      rw [suM_no _ (fun p hp z => by have := tmN_all.mp z w hw; rw [sto_n hk h6 hs hw] at this; cases this)]; rfl
  · have hnil : waysOf V W = [] := List.length_eq_zero_iff.mp (by omega)
    rw [if_neg hne, hnil, ik_nI (by omega)]
    cases isSto V W (nI k) with
    | true => rfl
    | false => rfl
theorem m_surL (d k : Nat) (n : Nat) {V : sVal} {W : sWall} {U : List sWall} {K : Nat → Option (sWall × sSeen)} {S : sSeen} {Y : sYear} {μ : am_M2} (ν : am_N2) (hR : mR μ V W U K S Y) (hO : vOk V) (hI : sI (vN V) (vP V) W.1 W.2.1) (ht : W.2.2 < 2 ^ 20) (hN : nOk V S) (hk : k < vN V) (wn : Int32) (hA : mAcc V S W.2.2 none wn μ (waysOf V W)) : ∀ (m j : Nat) , j + m = vP V → am_w (d + 15) (Option.some FieldType.int) am_g266 14 [some (.ref 133), some (.int (nI k)), some (.int (if 0 < (waysOf V W).length then sn_place (suM (waysOf V W) k j) else -1)), some (.int (nI j))] [] (am_hp n μ ν) (fun y => y = (some (.int (qSure V W (nI k))), am_hp n μ ν)) := by
  intro m
  induction m with
  | zero =>
    intro j  hj
    have h6 := hO.1.1
    have hP8 := hO.1.2.1
    have hV0 := hR.1
    refine am_q_iload_n rfl rfl ?_
    refine am_q_aload_n rfl rfl ?_
    refine am_q_call rfl rfl (m_places _ _ _ hV0) rfl ?_
    refine am_q_igeN rfl (by omega) (by omega) (fun c_19 => ?_) (fun c_19 => absurd c_19 (by omega))
    refine am_q_iload_n rfl rfl ?_
    refine am_q_ireturn rfl rfl rfl ?_
    rw [qSure_m hO hI hk, ← show j = vP V by omega]
  | succ m ih =>
    intro j  hj
    have h6 := hO.1.1
    have hP8 := hO.1.2.1
    have hV0 := hR.1
    have hlen : (waysOf V W).length ≤ 262144 := waysL_262 hO (sLo V W) (sSt V W) W.2.1
    have hix : am_ix (nI k) (vN V) = some k := am_ix_nI hk (by omega)
    have e := ih (j + 1) (by omega)
    have htl : tmN (waysOf V W) k j ≤ (waysOf V W).length := List.length_filter_le _ _
    refine am_q_iload_n rfl rfl ?_
    refine am_q_aload_n rfl rfl ?_
    refine am_q_call rfl rfl (m_places _ _ _ hV0) rfl ?_
    refine am_q_igeN rfl (by omega) (by omega) (fun c_19 => absurd c_19 (by omega)) (fun c_19 => ?_)
    refine am_q_aload_n rfl rfl ?_
    refine am_q_iload_n rfl rfl ?_
    refine am_q_call rfl rfl (m_isSoul _ _ _ _ hV0 hO) rfl ?_
    refine am_q_if_eqB rfl (fun c_27 => by rw [hix] at c_27; cases c_27) (fun c_27 => ?_)
    refine am_q_aload_n rfl rfl ?_
    refine am_q_gi rfl rfl rfl hA.1.1 ?_
    refine am_q_zleN rfl (by omega) (fun c_34 => ?_) (fun c_34 => ?_)
    · rw [if_neg (by omega)]
      refine am_q_iload_n rfl rfl ?_
      refine am_q_ireturn rfl rfl rfl ?_
      rw [qSure_m hO hI hk, if_neg (by omega)]
    · refine am_q_aload_n rfl rfl ?_
      refine am_q_gr rfl rfl rfl ?_
      refine am_q_bipush (v := nI 8) rfl rfl ?_
      refine am_q_iload_n rfl rfl ?_
      refine am_q_imul rfl (pk_mul _ _) ?_
      refine am_q_iload_n rfl rfl ?_
      refine am_q_iadd rfl (nI_add _ _) ?_
      refine am_q_iald rfl rfl (am_ix_nI (show 8 * k + j < 48 by omega) (by decide)) ((hA.2.1 k hk).1 j (by omega)) ?_
      refine am_q_aload_n rfl rfl ?_
      refine am_q_gi rfl rfl rfl hA.1.1 ?_
      refine am_q_ineN rfl (by omega) (by omega) (fun c_52 => ?_) (fun c_52 => ?_)
      · rw [if_pos c_34, suM_s, if_neg c_52] at e
        rw [if_pos c_34]
        refine am_q_iload_n rfl rfl ?_
        refine am_q_istore_n [some _, some _, some _, some _] rfl (Nat.le_of_ble_eq_true rfl) rfl ?_
        refine am_q_iinc [some _, some _, some _, some _] rfl (c := nI 1) rfl rfl (Nat.le_of_ble_eq_true rfl) (nI_add _ _) rfl ?_
        refine am_q_goto rfl ?_
        exact e
      · rw [if_pos c_34, suM_s, if_pos c_52] at e
        refine am_q_iload_n rfl rfl ?_
        refine am_q_goto rfl ?_
        refine am_q_istore_n [some _, some _, some _, some _] rfl (Nat.le_of_ble_eq_true rfl) rfl ?_
        refine am_q_iinc [some _, some _, some _, some _] rfl (c := nI 1) rfl rfl (Nat.le_of_ble_eq_true rfl) (nI_add _ _) rfl ?_
        refine am_q_goto rfl ?_
        exact e

theorem m_sure0 (d : Nat) (s : Int32) (n : Nat) {V : sVal} {W : sWall} {U : List sWall} {K : Nat → Option (sWall × sSeen)} {S : sSeen} {Y : sYear} {μ : am_M2} (ν : am_N2) (hR : mR μ V W U K S Y) (hO : vOk V) (hI : sI (vN V) (vP V) W.1 W.2.1) (ht : W.2.2 < 2 ^ 20) (hN : nOk V S) (hz : (am_ix s (vN V)).isSome = false) : ∃ (μ' : am_M2), am_run (d + 16) 266 [.ref 133, .int s] (am_hp n μ ν) = some (some (.int (qSure V W s)), am_hp n μ' ν) ∧ fr μ μ' := by
  have h6 := hO.1.1
  have hP8 := hO.1.2.1
  have hR0 := mR_fr (fr_thr μ) hR
  have hq : qSure V W s = -1 := if_neg (fun z => by unfold isSto sIs at z; rw [isN hz] at z; cases z)
  have key : ∃ r, am_run (d + 16) 266 [.ref 133, .int s] (am_hp n μ ν) = some r ∧ ∃ (μ' : am_M2), r = (some (.int (qSure V W s)), am_hp n μ' ν) ∧ fr μ μ' := am_run_wE (k := 266) (d := d + 15) rfl rfl (Nat.le_of_ble_eq_true rfl) [some (.ref 133), some (.int s), none, none] rfl (by
    refine am_q_aload_n rfl rfl ?_
    refine am_q_iconst (v := nI 0) rfl rfl ?_
    refine am_q_pi rfl rfl rfl (Or.inl rfl) ?_
    refine am_q_aload_n rfl rfl ?_
    refine am_q_iconst (v := -1) rfl rfl ?_
    obtain ⟨μ2, hc2, hA2, hf2⟩ := m_gathers d n ν hR0 hO hI ht hN none (fun w hw => (by cases hw))
    have hV2 := mVal_fr hf2 hR0.1
    refine am_q_call rfl rfl ((show am_run (d + 15) 258 [.ref 133, .int (-1)] _ = _ from hc2)) rfl ?_
    refine am_q_iconst (v := -1) rfl rfl ?_
    refine am_q_istore_n [some _, some _, some _, none] rfl (Nat.le_of_ble_eq_true rfl) rfl ?_
    refine am_q_iconst (v := nI 0) rfl rfl ?_
    refine am_q_istore_n [some _, some _, some _, some _] rfl (Nat.le_of_ble_eq_true rfl) rfl ?_
    refine am_q_iload_n rfl rfl ?_
    refine am_q_aload_n rfl rfl ?_
    refine am_q_call rfl rfl (m_places _ _ _ hV2) rfl ?_
    refine am_q_igeN rfl (by omega) (by omega) (fun c_19 => ?_) (fun c_19 => ?_)
    · refine am_q_iload_n rfl rfl ?_
      refine am_q_ireturn rfl rfl rfl ?_
      rw [hq]
      exact ⟨_, rfl, fr_tr (fr_thr μ) hf2⟩
    · refine am_q_aload_n rfl rfl ?_
      refine am_q_iload_n rfl rfl ?_
      refine am_q_call rfl rfl (m_isSoul _ _ _ _ hV2 hO) rfl ?_
      refine am_q_if_eqB rfl (fun c_27 => ?_) (fun c_27 => by rw [hz] at c_27; cases c_27)
      refine am_q_iload_n rfl rfl ?_
      refine am_q_ireturn rfl rfl rfl ?_
      rw [hq]
      exact ⟨_, rfl, fr_tr (fr_thr μ) hf2⟩)
  obtain ⟨r, h1, μ', h2, h3⟩ := key
  exact ⟨μ', by rw [h1, h2], h3⟩

theorem m_sure1 (d : Nat) (k : Nat) (n : Nat) {V : sVal} {W : sWall} {U : List sWall} {K : Nat → Option (sWall × sSeen)} {S : sSeen} {Y : sYear} {μ : am_M2} (ν : am_N2) (hR : mR μ V W U K S Y) (hO : vOk V) (hI : sI (vN V) (vP V) W.1 W.2.1) (ht : W.2.2 < 2 ^ 20) (hN : nOk V S) (hk : k < vN V) : ∃ (μ' : am_M2), am_run (d + 16) 266 [.ref 133, .int (nI k)] (am_hp n μ ν) = some (some (.int (qSure V W (nI k))), am_hp n μ' ν) ∧ fr μ μ' := by
  have h6 := hO.1.1
  have hP8 := hO.1.2.1
  have hR0 := mR_fr (fr_thr μ) hR
  have key : ∃ r, am_run (d + 16) 266 [.ref 133, .int (nI k)] (am_hp n μ ν) = some r ∧ ∃ (μ' : am_M2), r = (some (.int (qSure V W (nI k))), am_hp n μ' ν) ∧ fr μ μ' := am_run_wE (k := 266) (d := d + 15) rfl rfl (Nat.le_of_ble_eq_true rfl) [some (.ref 133), some (.int (nI k)), none, none] rfl (by
    refine am_q_aload_n rfl rfl ?_
    refine am_q_iconst (v := nI 0) rfl rfl ?_
    refine am_q_pi rfl rfl rfl (Or.inl rfl) ?_
    refine am_q_aload_n rfl rfl ?_
    refine am_q_iconst (v := -1) rfl rfl ?_
    obtain ⟨μ2, hc2, hA2, hf2⟩ := m_gathers d n ν hR0 hO hI ht hN none (fun w hw => (by cases hw))
    refine am_q_call rfl rfl ((show am_run (d + 15) 258 [.ref 133, .int (-1)] _ = _ from hc2)) rfl ?_
    refine am_q_iconst (v := -1) rfl rfl ?_
    refine am_q_istore_n [some _, some _, some _, none] rfl (Nat.le_of_ble_eq_true rfl) rfl ?_
    refine am_q_iconst (v := nI 0) rfl rfl ?_
    refine am_q_istore_n [some _, some _, some _, some _] rfl (Nat.le_of_ble_eq_true rfl) rfl ?_
    have e := m_surL d k n ν (mR_fr hf2 hR0) hO hI ht hN hk _ hA2 (vP V) 0 (by omega)
    rw [show (if 0 < (waysOf V W).length then sn_place (suM (waysOf V W) k 0) else -1) = (-1 : Int32) by split <;> rfl] at e
    exact am_w_mono (fun r hr => ⟨_, hr, fr_tr (fr_thr μ) hf2⟩) e)
  obtain ⟨r, h1, μ', h2, h3⟩ := key
  exact ⟨μ', by rw [h1, h2], h3⟩

theorem m_sure (d : Nat) (s : Int32) (n : Nat) {V : sVal} {W : sWall} {U : List sWall} {K : Nat → Option (sWall × sSeen)} {S : sSeen} {Y : sYear} {μ : am_M2} (ν : am_N2) (hR : mR μ V W U K S Y) (hO : vOk V) (hI : sI (vN V) (vP V) W.1 W.2.1) (ht : W.2.2 < 2 ^ 20) (hN : nOk V S) : ∃ μ', am_run (d + 16) 266 [.ref 133, .int s] (am_hp n μ ν) = some (some (.int (qSure V W s)), am_hp n μ' ν) ∧ fr μ μ' := by
  have h6 := hO.1.1
  cases hs : (am_ix s (vN V)).isSome with
  | false => exact m_sure0 d s n ν hR hO hI ht hN hs
  | true =>
    obtain ⟨k, hk, rfl, -⟩ := isI hs (by omega)
    exact m_sure1 d k n ν hR hO hI ht hN hk
theorem gT_s (f : Nat → Nat) (n : Nat) : gT f (n + 1) = if gT f n < f n then f n else gT f n := rfl
theorem gT_42 {f : Nat → Nat} (h : ∀ w, 42 ≤ w → f w = 0) : gT f 64 = gT f 42 := by
  have : ∀ m, gT f (42 + m) = gT f 42 := fun m => by
    induction m with
    | zero => rfl
    | succ m ih => rw [show 42 + (m + 1) = 42 + m + 1 by omega, gT_s, h (42 + m) (by omega), if_neg (by omega), ih]
  exact this 22
theorem tlF_42 {V : sVal} (hO : vOk V) (S : sSeen) (ws : List (Nat → Option Nat)) (p w : Nat) (h : 42 ≤ w) : tlF V S ws p w = 0 := by
  unfold tlF
  rw [List.length_eq_zero_iff, List.filter_eq_nil_iff]
  intro pl _ z
  rw [Bool.and_eq_true] at z
  have := of_decide_eq_true z.2
  have := wAt_le hO pl p (vN V) (Nat.le_refl _)
  omega
theorem lkF_s (g : Nat → Nat) (f p : Nat) : lkF g f (p + 1) = if g p < (lkF g f p).1 then (g p, some p) else lkF g f p := rfl
theorem m_lokI (d i : Nat) (n : Nat) {V : sVal} {W : sWall} {U : List sWall} {K : Nat → Option (sWall × sSeen)} {S : sSeen} {Y : sYear} {μ : am_M2} (ν : am_N2) (hR : mR μ V W U K S Y) (hO : vOk V) (hI : sI (vN V) (vP V) W.1 W.2.1) (ht : W.2.2 < 2 ^ 20) (hN : nOk V S) (hi : i < vP V) (wn : Int32) (hA : mAcc V S W.2.2 none wn μ (waysOf V W)) (b : Int32) (le : Nat) (Q : am_R → Prop) (K : am_w (d + 15) (Option.some FieldType.int) am_g271 82 [some (.ref 133), some (.int b), some (.int (nI le)), some (.int (nI i)), some (.int (nI (gT (tlF V S (waysOf V W) i) 42))), some (.int (nI 42))] [] (am_hp n μ ν) Q) : ∀ (m j : Nat) , j + m = 42 → am_w (d + 15) (Option.some FieldType.int) am_g271 33 [some (.ref 133), some (.int b), some (.int (nI le)), some (.int (nI i)), some (.int (nI (gT (tlF V S (waysOf V W) i) j))), some (.int (nI j))] [] (am_hp n μ ν) (Q) := by
  intro m
  induction m with
  | zero =>
    intro j  hj
    refine am_q_iload rfl rfl ?_
    refine am_q_bipush (v := nI 42) rfl rfl ?_
    refine am_q_igeN rfl (by omega) (by omega) (fun c_37 => ?_) (fun c_37 => absurd c_37 (by omega))
    rw [show j = 42 by omega]
    exact K
  | succ m ih =>
    intro j  hj
    have hP8 := hO.1.2.1
    have hlen : (waysOf V W).length ≤ 262144 := waysL_262 hO (sLo V W) (sSt V W) W.2.1
    have e := ih (j + 1) (by omega)
    have t1 : tlF V S (waysOf V W) i j ≤ (waysOf V W).length := tlF_le _ _ _ _ _
    have t2 : gT (tlF V S (waysOf V W) i) j ≤ (waysOf V W).length := gT_le (fun w => tlF_le _ _ _ _ _) _
    refine am_q_iload rfl rfl ?_
    refine am_q_bipush (v := nI 42) rfl rfl ?_
    refine am_q_igeN rfl (by omega) (by omega) (fun c_37 => absurd c_37 (by omega)) (fun c_37 => ?_)
    refine am_q_aload_n rfl rfl ?_
    refine am_q_gr rfl rfl rfl ?_
    refine am_q_bipush (v := nI 42) rfl rfl ?_
    refine am_q_iload_n rfl rfl ?_
    refine am_q_imul rfl (pk_mul _ _) ?_
    refine am_q_iload rfl rfl ?_
    refine am_q_iadd rfl (nI_add _ _) ?_
    refine am_q_iald rfl rfl (am_ix_nI (show 42 * i + j < 336 by omega) (by decide)) (hA.2.2.2.1.2 i hi j (by omega)) ?_
    refine am_q_iload rfl rfl ?_
    refine am_q_ileN rfl (by omega) (by omega) (fun c_54 => ?_) (fun c_54 => ?_)
    · rw [gT_s, if_neg (by omega)] at e
      refine am_q_iload rfl rfl ?_
      refine am_q_istore [some _, some _, some _, some _, some _, some _] rfl (Nat.le_of_ble_eq_true rfl) rfl ?_
      refine am_q_iinc [some _, some _, some _, some _, some _, some _] rfl (c := nI 1) rfl rfl (Nat.le_of_ble_eq_true rfl) (nI_add _ _) rfl ?_
      refine am_q_goto rfl ?_
      exact e
    · rw [gT_s, if_pos c_54] at e
      refine am_q_aload_n rfl rfl ?_
      refine am_q_gr rfl rfl rfl ?_
      refine am_q_bipush (v := nI 42) rfl rfl ?_
      refine am_q_iload_n rfl rfl ?_
      refine am_q_imul rfl (pk_mul _ _) ?_
      refine am_q_iload rfl rfl ?_
      refine am_q_iadd rfl (nI_add _ _) ?_
      refine am_q_iald rfl rfl (am_ix_nI (show 42 * i + j < 336 by omega) (by decide)) (hA.2.2.2.1.2 i hi j (by omega)) ?_
      refine am_q_goto rfl ?_
      refine am_q_istore [some _, some _, some _, some _, some _, some _] rfl (Nat.le_of_ble_eq_true rfl) rfl ?_
      refine am_q_iinc [some _, some _, some _, some _, some _, some _] rfl (c := nI 1) rfl rfl (Nat.le_of_ble_eq_true rfl) (nI_add _ _) rfl ?_
      refine am_q_goto rfl ?_
      exact e

theorem m_lokT (d i g : Nat) (n : Nat) {V : sVal} {W : sWall} {U : List sWall} {K : Nat → Option (sWall × sSeen)} {S : sSeen} {Y : sYear} {μ : am_M2} (ν : am_N2) (hR : mR μ V W U K S Y) (hO : vOk V) (hI : sI (vN V) (vP V) W.1 W.2.1) (ht : W.2.2 < 2 ^ 20) (hN : nOk V S) (x : Nat × Option Nat) (hg : g ≤ (waysOf V W).length) (hx : x.1 ≤ (waysOf V W).length) (o5 : Option Value) (Q : am_R → Prop) (K1 : g < x.1 → am_w (d + 15) (Option.some FieldType.int) am_g271 19 [some (.ref 133), some (.int (nI i)), some (.int (nI g)), some (.int (nI (i + 1))), some (.int (nI g)), o5] [] (am_hp n μ ν) Q) (K2 : ¬ g < x.1 → am_w (d + 15) (Option.some FieldType.int) am_g271 19 [some (.ref 133), some (.int (sn_place x.2)), some (.int (nI x.1)), some (.int (nI (i + 1))), some (.int (nI g)), o5] [] (am_hp n μ ν) Q) : am_w (d + 15) (Option.some FieldType.int) am_g271 82 [some (.ref 133), some (.int (sn_place x.2)), some (.int (nI (x.1))), some (.int (nI i)), some (.int (nI g)), o5] [] (am_hp n μ ν) (Q) := by
  have hlen : (waysOf V W).length ≤ 262144 := waysL_262 hO (sLo V W) (sSt V W) W.2.1
  refine am_q_iload rfl rfl ?_
  refine am_q_iload_n rfl rfl ?_
  refine am_q_igeN rfl (by omega) (by omega) (fun c_85 => ?_) (fun c_85 => ?_)
  · refine am_q_iload_n rfl rfl ?_
    refine am_q_istore_n [some _, some _, some _, some _, some _, _] rfl (Nat.le_of_ble_eq_true rfl) rfl ?_
    refine am_q_iload rfl rfl ?_
    refine am_q_iload_n rfl rfl ?_
    refine am_q_igeN rfl (by omega) (by omega) (fun c_97 => ?_) (fun c_97 => absurd c_97 (by omega))
    refine am_q_iload_n rfl rfl ?_
    refine am_q_istore_n [some _, some _, some _, some _, some _, _] rfl (Nat.le_of_ble_eq_true rfl) rfl ?_
    refine am_q_iinc [some _, some _, some _, some _, some _, _] rfl (c := nI 1) rfl rfl (Nat.le_of_ble_eq_true rfl) (nI_add _ _) rfl ?_
    refine am_q_goto rfl ?_
    first | exact K1 c_85 | exact K2 (by omega)
  · refine am_q_iload_n rfl rfl ?_
    refine am_q_goto rfl ?_
    refine am_q_istore_n [some _, some _, some _, some _, some _, _] rfl (Nat.le_of_ble_eq_true rfl) rfl ?_
    refine am_q_iload rfl rfl ?_
    refine am_q_iload_n rfl rfl ?_
    refine am_q_igeN rfl (by omega) (by omega) (fun c_97 => absurd c_97 (by omega)) (fun c_97 => ?_)
    refine am_q_iload rfl rfl ?_
    refine am_q_goto rfl ?_
    refine am_q_istore_n [some _, some _, some _, some _, some _, _] rfl (Nat.le_of_ble_eq_true rfl) rfl ?_
    refine am_q_iinc [some _, some _, some _, some _, some _, _] rfl (c := nI 1) rfl rfl (Nat.le_of_ble_eq_true rfl) (nI_add _ _) rfl ?_
    refine am_q_goto rfl ?_
    first | exact K1 c_85 | exact K2 (by omega)

theorem m_lokL (d : Nat) (n : Nat) {V : sVal} {W : sWall} {U : List sWall} {K : Nat → Option (sWall × sSeen)} {S : sSeen} {Y : sYear} {μ : am_M2} (ν : am_N2) (hR : mR μ V W U K S Y) (hO : vOk V) (hI : sI (vN V) (vP V) W.1 W.2.1) (ht : W.2.2 < 2 ^ 20) (hN : nOk V S) (wn : Int32) (hA : mAcc V S W.2.2 none wn μ (waysOf V W)) : ∀ (m j : Nat) (o4 : Option Value) (o5 : Option Value), j + m = vP V → am_w (d + 15) (Option.some FieldType.int) am_g271 19 [some (.ref 133), some (.int (sn_place (lkF (fun p => gT (tlF V S (waysOf V W) p) 64) (ftF V S (waysOf V W)) j).2)), some (.int (nI ((lkF (fun p => gT (tlF V S (waysOf V W) p) 64) (ftF V S (waysOf V W)) j).1))), some (.int (nI j)), o4, o5] [] (am_hp n μ ν) (fun y => y = (some (.int (qLook V W S)), am_hp n μ ν)) := by
  intro m
  induction m with
  | zero =>
    intro j o4 o5 hj
    have hP8 := hO.1.2.1
    have hV0 := hR.1
    refine am_q_iload_n rfl rfl ?_
    refine am_q_aload_n rfl rfl ?_
    refine am_q_call rfl rfl (m_places _ _ _ hV0) rfl ?_
    refine am_q_igeN rfl (by omega) (by omega) (fun c_24 => ?_) (fun c_24 => absurd c_24 (by omega))
    refine am_q_iload_n rfl rfl ?_
    refine am_q_ireturn rfl rfl rfl ?_
    rw [show j = vP V by omega]; rfl
  | succ m ih =>
    intro j o4 o5 hj
    have hP8 := hO.1.2.1
    have hV0 := hR.1
    refine am_q_iload_n rfl rfl ?_
    refine am_q_aload_n rfl rfl ?_
    refine am_q_call rfl rfl (m_places _ _ _ hV0) rfl ?_
    refine am_q_igeN rfl (by omega) (by omega) (fun c_24 => absurd c_24 (by omega)) (fun c_24 => ?_)
    refine am_q_iconst (v := nI 0) rfl rfl ?_
    refine am_q_istore [some _, some _, some _, some _, some _, _] rfl (Nat.le_of_ble_eq_true rfl) rfl ?_
    refine am_q_iconst (v := nI 0) rfl rfl ?_
    refine am_q_istore [some _, some _, some _, some _, some _, some _] rfl (Nat.le_of_ble_eq_true rfl) rfl ?_
    refine m_lokI d j n ν hR hO hI ht hN (by omega) wn hA _ _ _ ?_ 42 0 (by omega)
    rw [← gT_42 (fun w hw => tlF_42 hO S _ j w hw)]
    exact m_lokT d j (gT (tlF V S (waysOf V W) j) 64) n ν hR hO hI ht hN (lkF (fun p => gT (tlF V S (waysOf V W) p) 64) (ftF V S (waysOf V W)) j) (gT_le (fun w => tlF_le _ _ _ _ _) _) (Nat.le_trans (lkF_le j) (ftF_le _ _ _)) _ _ (fun z => by have e := ih (j + 1) (some (.int (nI (gT (tlF V S (waysOf V W) j) 64)))) (some (.int (nI 42))) (by omega); rw [lkF_s, if_pos z] at e; exact e) (fun z => by have e := ih (j + 1) (some (.int (nI (gT (tlF V S (waysOf V W) j) 64)))) (some (.int (nI 42))) (by omega); rw [lkF_s, if_neg z] at e; exact e)

/-- StoneSecretsModel.look()I -/
theorem m_look (d : Nat) (n : Nat) {V : sVal} {W : sWall} {U : List sWall} {K : Nat → Option (sWall × sSeen)} {S : sSeen} {Y : sYear} {μ : am_M2} (ν : am_N2) (hR : mR μ V W U K S Y) (hO : vOk V) (hI : sI (vN V) (vP V) W.1 W.2.1) (ht : W.2.2 < 2 ^ 20) (hN : nOk V S) : ∃ (μ' : am_M2), am_run (d + 16) 271 [.ref 133] (am_hp n μ ν) = some (some (.int (qLook V W S)), am_hp n μ' ν) ∧ fr μ μ' := by
  have h6 := hO.1.1
  have hP8 := hO.1.2.1
  have hR0 := mR_fr (fr_thr μ) hR
  have key : ∃ r, am_run (d + 16) 271 [.ref 133] (am_hp n μ ν) = some r ∧ ∃ (μ' : am_M2), r = (some (.int (qLook V W S)), am_hp n μ' ν) ∧ fr μ μ' := am_run_wE (k := 271) (d := d + 15) rfl rfl (Nat.le_of_ble_eq_true rfl) [some (.ref 133), none, none, none, none, none] rfl (by
    refine am_q_aload_n rfl rfl ?_
    refine am_q_iconst (v := nI 0) rfl rfl ?_
    refine am_q_pi rfl rfl rfl (Or.inl rfl) ?_
    refine am_q_aload_n rfl rfl ?_
    refine am_q_iconst (v := -1) rfl rfl ?_
    obtain ⟨μ2, hc2, hA2, hf2⟩ := m_gathers d n ν hR0 hO hI ht hN none (fun w hw => (by cases hw))
    refine am_q_call rfl rfl ((show am_run (d + 15) 258 [.ref 133, .int (-1)] _ = _ from hc2)) rfl ?_
    refine am_q_iconst (v := -1) rfl rfl ?_
    refine am_q_istore_n [some _, some _, none, none, none, none] rfl (Nat.le_of_ble_eq_true rfl) rfl ?_
    refine am_q_aload_n rfl rfl ?_
    refine am_q_gi rfl rfl rfl hA2.2.2.2.1.1 ?_
    refine am_q_istore_n [some _, some _, some _, none, none, none] rfl (Nat.le_of_ble_eq_true rfl) rfl ?_
    refine am_q_iconst (v := nI 0) rfl rfl ?_
    refine am_q_istore_n [some _, some _, some _, some _, none, none] rfl (Nat.le_of_ble_eq_true rfl) rfl ?_
    have e := m_lokL d n ν (mR_fr hf2 hR0) hO hI ht hN _ hA2 (vP V) 0 none none (by omega)
    exact am_w_mono (fun r hr => ⟨_, hr, fr_tr (fr_thr μ) hf2⟩) e)
  obtain ⟨r, h1, μ', h2, h3⟩ := key
  exact ⟨μ', by rw [h1, h2], h3⟩
