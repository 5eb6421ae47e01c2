/-! ===== feuds ===== -/
/-- whether one is at peace with those before -/
def pce (V : sVal) (c : Nat → Option Nat) (s : Nat) : Nat → Bool := lpF (fun x b => b && !(decide (c x = c s) && (vFo V s).testBit x)) true
theorem pce_no {V : sVal} {c : Nat → Option Nat} {s n : Nat} (h : pce V c s n = false) : ∀ m, pce V c s (n + m) = false
  | 0 => h
  | m + 1 => by rw [← Nat.add_assoc, pce, lpF_s]; have := pce_no h m; rw [pce] at this; rw [this]; rfl
def pntW (V : sVal) (k : (Nat → Option Nat) → Option (Nat → Option Nat)) (s : Nat) (c : Nat → Option Nat) : Nat → Nat → Option (Nat → Option Nat)
  | 0, _ => none
  | m + 1, w => if pce V (fup c s (some w)) s s = true then (match k (fup c s (some w)) with
    | some r => some r
    | none => pntW V k s c m (w + 1)) else pntW V k s c m (w + 1)
/-- the first row of walls, of so many -/
def pnt (V : sVal) (b : Nat) (L : Nat) : Nat → Nat → (Nat → Option Nat) → Option (Nat → Option Nat)
  | 0, _, c => some c
  | r + 1, s, c => if b.testBit s = true then pntW V (pnt V b L r (s + 1)) s c L 0 else pnt V b L r (s + 1) (fup c s none)
theorem all_len : ∀ (n : Nat) (l : List Nat), (∀ w, w < n → w ∈ l) → n ≤ l.length
  | 0, _, _ => Nat.zero_le _
  | n + 1, l, h => by
    have h1 := h n (by omega)
    have h2 := all_len n (l.erase n) (fun w hw => (List.mem_erase_of_ne (by omega)).mpr (h w (by omega)))
    rw [List.length_erase_of_mem h1] at h2
    have := List.length_pos_of_mem h1
    omega
theorem free_w (c : Nat → Option Nat) (s : Nat) : ∃ w, w ≤ s ∧ ∀ x, x < s → c x ≠ some w := by
  by_cases h : ∃ w, w ≤ s ∧ ∀ x, x < s → c x ≠ some w
  · exact h
  · have h2 : ∀ w, w < s + 1 → w ∈ (List.range s).filterMap c := fun w hw => by
      rw [List.mem_filterMap]
      apply Classical.byContradiction
      intro hn
      exact h ⟨w, by omega, fun x hx e => hn ⟨x, List.mem_range.mpr hx, e⟩⟩
    have h3 := all_len (s + 1) _ h2
    have h4 := List.length_filterMap_le c (List.range s)
    rw [List.length_range] at h4
    omega
theorem pce_free {V : sVal} {c : Nat → Option Nat} {s : Nat} (h : ∀ x, x < s → c x ≠ c s) : ∀ n, n ≤ s → pce V c s n = true
  | 0, _ => rfl
  | n + 1, hn => by
    have := pce_free (V := V) h n (by omega)
    rw [pce, lpF_s]
    rw [pce] at this
    rw [this, decide_eq_false (h n (by omega))]; rfl
theorem pntW_ok {V : sVal} {k : (Nat → Option Nat) → Option (Nat → Option Nat)} {s : Nat} {c : Nat → Option Nat} (hk : ∀ c, k c ≠ none) {w1 : Nat} (h1 : pce V (fup c s (some w1)) s s = true) : ∀ m w, w ≤ w1 → w1 < w + m → pntW V k s c m w ≠ none
  | 0, w, h2, h3 => by omega
  | m + 1, w, h2, h3 => by
    rw [pntW]
    by_cases z : pce V (fup c s (some w)) s s = true
    · rw [if_pos z]
      cases hq : k (fup c s (some w)) with
      | none => exact absurd hq (hk _)
      | some r => exact fun e => by cases e
    · rw [if_neg z]
      have hne : w ≠ w1 := fun e => z (by rw [e]; exact h1)
      exact pntW_ok hk h1 m (w + 1) (by omega) (by omega)
theorem pnt_ok {V : sVal} {b L : Nat} : ∀ r s c, s + r ≤ L → pnt V b L r s c ≠ none
  | 0, _, _, _ => fun e => by cases e
  | r + 1, s, c, h => by
    rw [pnt]
    split
    · obtain ⟨w, hw, hf⟩ := free_w c s
      refine pntW_ok (fun c => pnt_ok r (s + 1) c (by omega)) (w1 := w) (pce_free (fun x hx => ?_) s (Nat.le_refl _)) L 0 (by omega) (by omega)
      unfold fup
      rw [if_neg (by omega), if_pos rfl]
      exact hf x hx
    · exact pnt_ok r (s + 1) _ (by omega)
/-- colours kept -/
def xC (c : Nat → Option Nat) (g : Nat → Int32) (n : Nat) : Prop := ∀ x, x < n → g x = sn_place (c x) ∧ ∀ w, c x = some w → w < 8
theorem sn_place_inj {q r : Option Nat} (hq : ∀ w, q = some w → w < 2 ^ 31) (hr : ∀ w, r = some w → w < 2 ^ 31) (h : sn_place q = sn_place r) : q = r := by
  cases r with
  | none => exact pl_none h hq
  | some b =>
    cases q with
    | none => exact (pl_none h.symm hr).symm
    | some a => rw [(nI_eq (hq a rfl) (hr b rfl)).mp h]
theorem s_peaceL (d : Nat) (n : Nat) {V : sVal} {μ : am_M2} (ν : am_N2) (hV : xVal μ V) (hO : vOk V) {c : Nat → Option Nat} (s : Nat) (hs : s < vN V) (hc : xC c (μ 131) (s + 1)) : ∀ (m j : Nat) , j + m = s → pce V c s j = true → am_w (d + 1) (Option.some FieldType.boolean) am_g140 2 [some (.ref 130), some (.int (nI s)), some (.int (nI j))] [] (am_hp n μ ν) (fun y => y = (some (.int (sB (pce V c s s))), am_hp n μ ν)) := by
  intro m
  induction m with
  | zero =>
    intro j  hj hinv
    have h6 := hO.1.1
    refine am_q_iload_n rfl rfl ?_
    refine am_q_iload_n rfl rfl ?_
    refine am_q_igeN rfl (by omega) (by omega) (fun c_4 => ?_) (fun c_4 => absurd c_4 (by omega))
    refine am_q_iconst (v := nI 1) rfl rfl ?_
    refine am_q_ireturn rfl rfl rfl ?_
    have hz : j = s := by omega
    subst hz
    rw [hinv]; rfl
  | succ m ih =>
    intro j  hj hinv
    have h6 := hO.1.1
    have hfo := vFo_lt hO hs
    have e1 : pce V c s (j + 1) = (pce V c s j && !(decide (c j = c s) && (vFo V s).testBit j)) := rfl
    rw [hinv, Bool.true_and] at e1
    refine am_q_iload_n rfl rfl ?_
    refine am_q_iload_n rfl rfl ?_
    refine am_q_igeN rfl (by omega) (by omega) (fun c_4 => absurd c_4 (by omega)) (fun c_4 => ?_)
    refine am_q_aload_n rfl rfl ?_
    refine am_q_gr rfl rfl rfl ?_
    refine am_q_iload_n rfl rfl ?_
    refine am_q_iald rfl rfl (by first | exact am_ix_nI (by omega) (by omega) | rfl) (hc _ (by omega)).1 ?_
    refine am_q_aload_n rfl rfl ?_
    refine am_q_gr rfl rfl rfl ?_
    refine am_q_iload_n rfl rfl ?_
    refine am_q_iald rfl rfl (by first | exact am_ix_nI (by omega) (by omega) | rfl) (hc _ (by omega)).1 ?_
    refine am_q_icmp_ne rfl (fun c_19 => ?_) (fun c_19 => ?_)
    · rw [decide_eq_false (fun q => c_19 (by rw [q]))] at e1
      refine am_q_iinc [some _, some _, some _] rfl (c := nI 1) rfl rfl (Nat.le_of_ble_eq_true rfl) (nI_add _ _) rfl ?_
      refine am_q_goto rfl ?_
      exact ih (j + 1) (by omega) e1
    · rw [decide_eq_true (sn_place_inj (fun w hw => by have := (hc j (by omega)).2 w hw; omega) (fun w hw => by have := (hc s (by omega)).2 w hw; omega) c_19), Bool.true_and] at e1
      refine am_q_aload_n rfl rfl ?_
      refine am_q_gr rfl rfl rfl ?_
      refine am_q_gr rfl rfl rfl ?_
      refine am_q_iload_n rfl rfl ?_
      refine am_q_iald rfl rfl (by first | exact am_ix_nI (by omega) (by omega) | rfl) (hV.2.2.2.1 _ (by omega)).2.2.2.2 ?_
      refine am_q_iload_n rfl rfl ?_
      refine am_q_call rfl rfl (s_hasN _ _ _ (by omega) (by omega) _) rfl ?_
      refine am_q_if_eqB rfl (fun c_35 => ?_) (fun c_35 => ?_)
      · rw [c_35] at e1
        refine am_q_iinc [some _, some _, some _] rfl (c := nI 1) rfl rfl (Nat.le_of_ble_eq_true rfl) (nI_add _ _) rfl ?_
        refine am_q_goto rfl ?_
        exact ih (j + 1) (by omega) e1
      · rw [c_35] at e1
        refine am_q_iconst (v := nI 0) rfl rfl ?_
        refine am_q_ireturn rfl rfl rfl ?_
        have e2 := pce_no e1 m
        rw [show j + 1 + m = s by omega] at e2
        rw [e2]; rfl

/-- StoneSecrets$Feuds.isAtPeace(I)Z -/
theorem s_peace (d : Nat) (n : Nat) {V : sVal} {μ : am_M2} (ν : am_N2) (hV : xVal μ V) (hO : vOk V) {c : Nat → Option Nat} (s : Nat) (hs : s < vN V) (hc : xC c (μ 131) (s + 1)) : am_run (d + 2) 140 [.ref 130, .int (nI s)] (am_hp n μ ν) = some (some (.int (sB (pce V c s s))), am_hp n μ ν) := by
  refine am_r140 (d := d + 1) (Nat.le_of_ble_eq_true rfl) [some (.ref 130), some (.int (nI s)), none] rfl ?_
  refine am_q_iconst (v := nI 0) rfl rfl ?_
  refine am_q_istore_n [some _, some _, some _] rfl (Nat.le_of_ble_eq_true rfl) rfl ?_
  exact s_peaceL d n ν hV hO s hs hc s 0 (by omega) rfl

/-- the painted row alone changed -/
def frC (μ μ' : am_M2) : Prop := ∀ i, i ≠ 131 → μ' i = μ i
theorem frC_rf (μ : am_M2) : frC μ μ := fun _ _ => rfl
theorem frC_tr {μ μ' μ'' : am_M2} (h : frC μ μ') (h' : frC μ' μ'') : frC μ μ'' := fun i q => (h' i q).trans (h i q)
theorem fr_C {μ μ' : am_M2} (h : frC μ μ') : fr μ μ' := fun i k q => by rw [h i (by omega)]
theorem frC_up {μ : am_M2} {k : Nat} {v : Int32} : frC μ (am_up μ 131 k v) := fun j q => by funext k; unfold am_up; rw [if_neg q]
def pQ (V : sVal) (n : Nat) (ν : am_N2) (μ : am_M2) (s : Nat) (c : Nat → Option Nat) (r : Option (Nat → Option Nat)) (y : am_R) : Prop := ∃ μ', y = (some (.int (sB r.isSome)), am_hp n μ' ν) ∧ frC μ μ' ∧ (match r with
  | some c' => xC c' (μ' 131) (vN V)
  | none => xC c (μ' 131) s)
theorem xC_up {c : Nat → Option Nat} {g : Nat → Int32} {s : Nat} {q : Option Nat} {v : Int32} (h : xC c g s) (hv : v = sn_place q) (hq : ∀ w, q = some w → w < 8) : xC (fup c s q) (upd g s v) (s + 1) := by
  intro x hx
  unfold fup
  by_cases z : x = s
  · rw [z, pk_us, if_pos rfl]; exact ⟨hv, hq⟩
  · rw [pk_un z, if_neg z]; exact h x (by omega)
theorem xC_lt {c c' : Nat → Option Nat} {g : Nat → Int32} {s n : Nat} (h : xC c' g n) (hs : s ≤ n) (he : ∀ x, x < s → c' x = c x) : xC c g s := fun x hx => by rw [← he x hx]; exact h x (by omega)
theorem up131 (μ : am_M2) (k : Nat) (v : Int32) : am_up μ 131 k v 131 = upd (μ 131) k v := by funext j; unfold am_up upd; simp
theorem s_pf0 (d s b L n : Nat) {V : sVal} {μ : am_M2} (ν : am_N2) (hV : xVal μ V) (hO : vOk V) (hs : s = vN V) {c : Nat → Option Nat} (hc : xC c (μ 131) s) : am_w (d + 2) (Option.some FieldType.boolean) am_g139 0 [some (.ref 130), some (.int (nI s)), some (.int (nI b)), some (.int (nI L)), none] [] (am_hp n μ ν) (pQ V n ν μ s c (some c)) := by
  have h6 := hO.1.1
  refine am_q_iload_n rfl rfl ?_
  refine am_q_aload_n rfl rfl ?_
  refine am_q_gr rfl rfl rfl ?_
  refine am_q_gi rfl rfl rfl hV.1.1 ?_
  refine am_q_iltN rfl (by omega) (by omega) (fun c_8 => absurd c_8 (by omega)) (fun c_8 => ?_)
  refine am_q_iconst (v := nI 1) rfl rfl ?_
  refine am_q_ireturn rfl rfl rfl ?_
  exact ⟨μ, rfl, frC_rf _, by rw [← hs]; exact hc⟩

theorem s_pf1 (d s b L n : Nat) {V : sVal} (ν : am_N2) (hO : vOk V) (hs : s < vN V) (hb : b < 64) (hL : L ≤ 7) (k : (Nat → Option Nat) → Option (Nat → Option Nat)) (hk : ∀ (c : Nat → Option Nat) (μ : am_M2), xVal μ V → xC c (μ 131) (s + 1) → ∃ r, am_run (d + 2) 139 [.ref 130, .int (nI (s + 1)), .int (nI b), .int (nI L)] (am_hp n μ ν) = some r ∧ pQ V n ν μ (s + 1) c (k c) r) {μ : am_M2} (hV : xVal μ V) {c : Nat → Option Nat} (hc : xC c (μ 131) s) (hbs : b.testBit s = false) : am_w (d + 2) (Option.some FieldType.boolean) am_g139 0 [some (.ref 130), some (.int (nI s)), some (.int (nI b)), some (.int (nI L)), none] [] (am_hp n μ ν) (pQ V n ν μ s c (k (fup c s none))) := by
  have h6 := hO.1.1
  obtain ⟨r, hr, μ2, hr2, hf2, hm2⟩ := hk (fup c s none) (am_up μ 131 s (-1)) (xVal_fr (fr_C frC_up) hV) (by rw [up131]; exact xC_up hc rfl (fun w h => by cases h))
  rw [hr2] at hr
  refine am_q_iload_n rfl rfl ?_
  refine am_q_aload_n rfl rfl ?_
  refine am_q_gr rfl rfl rfl ?_
  refine am_q_gi rfl rfl rfl hV.1.1 ?_
  refine am_q_iltN rfl (by omega) (by omega) (fun c_8 => ?_) (fun c_8 => absurd c_8 (by omega))
  refine am_q_iload_n rfl rfl ?_
  refine am_q_iload_n rfl rfl ?_
  refine am_q_call rfl rfl (s_hasN _ _ _ (by omega) (by omega) _) rfl ?_
  refine am_q_if_neB rfl (fun c_18 => absurd c_18 (by simp [hbs])) (fun c_18 => ?_)
  refine am_q_aload_n rfl rfl ?_
  refine am_q_gr rfl rfl rfl ?_
  refine am_q_iload_n rfl rfl ?_
  refine am_q_iconst (v := -1) rfl rfl ?_
  refine am_q_iast rfl rfl (by first | exact am_ix_nI (by omega) (by omega) | rfl) rfl ?_
  refine am_q_aload_n rfl rfl ?_
  refine am_q_iload_n rfl rfl ?_
  refine am_q_iconst (v := nI 1) rfl rfl ?_
  refine am_q_iadd rfl (nI_add _ _) ?_
  refine am_q_iload_n rfl rfl ?_
  refine am_q_iload_n rfl rfl ?_
  refine am_q_call rfl rfl (hr) rfl ?_
  refine am_q_ireturn rfl rfl (sB_ok _) ?_
  refine ⟨μ2, rfl, frC_tr frC_up hf2, ?_⟩
  cases hq : k (fup c s none) with
  | some c' => rw [hq] at hm2; exact hm2
  | none => rw [hq] at hm2; exact xC_lt (c' := fup c s none) hm2 (by omega) (fun x hx => by unfold fup; rw [if_neg (by omega)])

theorem s_pf2L (d s b L n : Nat) {V : sVal} (ν : am_N2) (hO : vOk V) (hs : s < vN V) (hb : b < 64) (hL : L ≤ 7) (k : (Nat → Option Nat) → Option (Nat → Option Nat)) (hk : ∀ (c : Nat → Option Nat) (μ : am_M2), xVal μ V → xC c (μ 131) (s + 1) → ∃ r, am_run (d + 2) 139 [.ref 130, .int (nI (s + 1)), .int (nI b), .int (nI L)] (am_hp n μ ν) = some r ∧ pQ V n ν μ (s + 1) c (k c) r) {c : Nat → Option Nat} : ∀ (m j : Nat) (μ1 : am_M2), j + m = L → xVal μ1 V ∧ xC c (μ1 131) s → am_w (d + 2) (Option.some FieldType.boolean) am_g139 41 [some (.ref 130), some (.int (nI s)), some (.int (nI b)), some (.int (nI L)), some (.int (nI j))] [] (am_hp n μ1 ν) (pQ V n ν μ1 s c (pntW V k s c m j)) := by
  intro m
  induction m with
  | zero =>
    intro j μ1 hj hinv
    have h6 := hO.1.1
    refine am_q_iload rfl rfl ?_
    refine am_q_iload_n rfl rfl ?_
    refine am_q_igeN rfl (by omega) (by omega) (fun c_44 => ?_) (fun c_44 => absurd c_44 (by omega))
    refine am_q_iconst (v := nI 0) rfl rfl ?_
    refine am_q_ireturn rfl rfl rfl ?_
    exact ⟨μ1, rfl, frC_rf _, hinv.2⟩
  | succ m ih =>
    intro j μ1 hj hinv
    have h6 := hO.1.1
    have hf1 : frC μ1 (am_up μ1 131 s (nI j)) := frC_up
    have hV1 := xVal_fr (fr_C hf1) hinv.1
    have hx1 : xC (fup c s (some j)) (am_up μ1 131 s (nI j) 131) (s + 1) := by rw [up131]; exact xC_up hinv.2 rfl (fun w h => by cases h; omega)
    obtain ⟨r, hr, μ2, hr2, hf2, hm2⟩ := hk (fup c s (some j)) _ hV1 hx1
    rw [hr2] at hr
    have hlow : xC c (am_up μ1 131 s (nI j) 131) s := xC_lt hx1 (by omega) (fun x hx => by unfold fup; rw [if_neg (by omega)])
    refine am_q_iload rfl rfl ?_
    refine am_q_iload_n rfl rfl ?_
    refine am_q_igeN rfl (by omega) (by omega) (fun c_44 => absurd c_44 (by omega)) (fun c_44 => ?_)
    refine am_q_aload_n rfl rfl ?_
    refine am_q_gr rfl rfl rfl ?_
    refine am_q_iload_n rfl rfl ?_
    refine am_q_iload rfl rfl ?_
    refine am_q_iast rfl rfl (by first | exact am_ix_nI (by omega) (by omega) | rfl) rfl ?_
    refine am_q_aload_n rfl rfl ?_
    refine am_q_iload_n rfl rfl ?_
    refine am_q_call rfl rfl (s_peace _ n ν hV1 hO s hs hx1) rfl ?_
    refine am_q_if_eqB rfl (fun c_60 => ?_) (fun c_60 => ?_)
    · rw [pntW, if_neg (by simp [c_60])]
      have e := ih (j + 1) _ (by omega) ⟨hV1, hlow⟩
      have hfF := hf1
      refine am_q_iinc [some _, some _, some _, some _, some _] rfl (c := nI 1) rfl rfl (Nat.le_of_ble_eq_true rfl) (nI_add _ _) rfl ?_
      refine am_q_goto rfl ?_
      exact am_w_mono (fun y ⟨μ3, g1, g2, g3⟩ => ⟨μ3, g1, frC_tr hfF g2, g3⟩) e
    · rw [pntW, if_pos c_60]
      refine am_q_aload_n rfl rfl ?_
      refine am_q_iload_n rfl rfl ?_
      refine am_q_iconst (v := nI 1) rfl rfl ?_
      refine am_q_iadd rfl (nI_add _ _) ?_
      refine am_q_iload_n rfl rfl ?_
      refine am_q_iload_n rfl rfl ?_
      refine am_q_call rfl rfl (hr) rfl ?_
      refine am_q_if_eqB rfl (fun c_72 => ?_) (fun c_72 => ?_)
      · have hq : k (fup c s (some j)) = none := by cases hq : k (fup c s (some j)) with | none => rfl | some x => rw [hq] at c_72; cases c_72
        rw [hq] at hm2
        rw [hq]
        have e := ih (j + 1) μ2 (by omega) ⟨xVal_fr (fr_C hf2) hV1, xC_lt (c' := fup c s (some j)) hm2 (by omega) (fun x hx => by unfold fup; rw [if_neg (by omega)])⟩
        have hfF := frC_tr hf1 hf2
        refine am_q_iinc [some _, some _, some _, some _, some _] rfl (c := nI 1) rfl rfl (Nat.le_of_ble_eq_true rfl) (nI_add _ _) rfl ?_
        refine am_q_goto rfl ?_
        exact am_w_mono (fun y ⟨μ3, g1, g2, g3⟩ => ⟨μ3, g1, frC_tr hfF g2, g3⟩) e
      · obtain ⟨c2, hq⟩ : ∃ c2, k (fup c s (some j)) = some c2 := by cases hq : k (fup c s (some j)) with | none => (rw [hq] at c_72; cases c_72) | some x => exact ⟨x, rfl⟩
        rw [hq] at hm2
        rw [hq]
        refine am_q_iconst (v := nI 1) rfl rfl ?_
        refine am_q_ireturn rfl rfl rfl ?_
        exact ⟨μ2, rfl, frC_tr hf1 hf2, hm2⟩

theorem s_pf2 (d s b L n : Nat) {V : sVal} (ν : am_N2) (hO : vOk V) (hs : s < vN V) (hb : b < 64) (hL : L ≤ 7) (k : (Nat → Option Nat) → Option (Nat → Option Nat)) (hk : ∀ (c : Nat → Option Nat) (μ : am_M2), xVal μ V → xC c (μ 131) (s + 1) → ∃ r, am_run (d + 2) 139 [.ref 130, .int (nI (s + 1)), .int (nI b), .int (nI L)] (am_hp n μ ν) = some r ∧ pQ V n ν μ (s + 1) c (k c) r) {μ : am_M2} (hV : xVal μ V) {c : Nat → Option Nat} (hc : xC c (μ 131) s) (hbs : b.testBit s = true) : am_w (d + 2) (Option.some FieldType.boolean) am_g139 0 [some (.ref 130), some (.int (nI s)), some (.int (nI b)), some (.int (nI L)), none] [] (am_hp n μ ν) (pQ V n ν μ s c (pntW V k s c L 0)) := by
  have h6 := hO.1.1
  refine am_q_iload_n rfl rfl ?_
  refine am_q_aload_n rfl rfl ?_
  refine am_q_gr rfl rfl rfl ?_
  refine am_q_gi rfl rfl rfl hV.1.1 ?_
  refine am_q_iltN rfl (by omega) (by omega) (fun c_8 => ?_) (fun c_8 => absurd c_8 (by omega))
  refine am_q_iload_n rfl rfl ?_
  refine am_q_iload_n rfl rfl ?_
  refine am_q_call rfl rfl (s_hasN _ _ _ (by omega) (by omega) _) rfl ?_
  refine am_q_if_neB rfl (fun c_18 => ?_) (fun c_18 => absurd c_18 (by simp [hbs]))
  refine am_q_iconst (v := nI 0) rfl rfl ?_
  refine am_q_istore [some _, some _, some _, some _, some _] rfl (Nat.le_of_ble_eq_true rfl) rfl ?_
  exact s_pf2L d s b L n ν hO hs hb hL k hk L 0 μ (by omega) ⟨hV, hc⟩

theorem s_pf (b L n : Nat) {V : sVal} (ν : am_N2) (hO : vOk V) (hb : b < 64) (hL : L ≤ 7) : ∀ (r d s : Nat) (c : Nat → Option Nat) (μ : am_M2), s + r = vN V → xVal μ V → xC c (μ 131) s → ∃ y, am_run (d + r + 3) 139 [.ref 130, .int (nI s), .int (nI b), .int (nI L)] (am_hp n μ ν) = some y ∧ pQ V n ν μ s c (pnt V b L r s c) y := by
  intro r
  induction r with
  | zero =>
    intro d s c μ hs hV hc
    exact am_run_wE (k := 139) (d := d + 2) rfl rfl (Nat.le_of_ble_eq_true rfl) [some (.ref 130), some (.int (nI s)), some (.int (nI b)), some (.int (nI L)), none] rfl (s_pf0 d s b L n ν hV hO (by omega) hc)
  | succ r ih =>
    intro d s c μ hs hV hc
    refine am_run_wE (k := 139) (d := d + r + 3) rfl rfl (Nat.le_of_ble_eq_true rfl) [some (.ref 130), some (.int (nI s)), some (.int (nI b)), some (.int (nI L)), none] rfl ?_
    have hk := fun c μ hV hc => ih d (s + 1) c μ (by omega) hV hc
    rw [pnt]
    cases hbs : b.testBit s with
    | false => exact s_pf1 (d + r + 1) s b L n ν hO (by omega) hb hL (pnt V b L r (s + 1)) hk hV hc hbs
    | true => exact s_pf2 (d + r + 1) s b L n ν hO (by omega) hb hL (pnt V b L r (s + 1)) hk hV hc hbs