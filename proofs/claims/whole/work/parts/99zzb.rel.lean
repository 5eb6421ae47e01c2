/-! ===== what class and model keep to together ===== -/
theorem hpE {x : Option am_R} {n : Nat} {r r' : Option Value} {μ μ' : am_M2} {ν ν' : am_N2} (h1 : x = some (r, am_hp n μ ν)) (h2 : x = some (r', am_hp n μ' ν')) : μ' = μ ∧ ν' = ν := by
  have h := h1.symm.trans h2
  injection h with h
  injection h with ha hb
  injection hb with hb1 hb2
  injection hb2 with hb3 hb4
  injection hb4 with hb5 hb6
  injection hb6 with hb7 hb8
  exact ⟨hb7.symm, hb8.symm⟩
def wG (V : sVal) (T : Nat) (w : sWall) : Prop := sI (vN V) (vP V) w.1 w.2.1 ∧ w.2.2 ≤ T
theorem wG_m {V : sVal} {T T' : Nat} {w : sWall} (h : wG V T w) (hT : T ≤ T') : wG V T' w := ⟨h.1, Nat.le_trans h.2 hT⟩
def iG (V : sVal) (W : sWall) (U : List sWall) (K : Nat → Option (sWall × sSeen)) (S : sSeen) (Y : sYear) (T : Nat) : Prop := vOk V ∧ wG V T W ∧ (∀ w ∈ U, wG V T w) ∧ (∀ m w s, K m = some (w, s) → wG V T w ∧ nOk V s) ∧ nOk V S ∧ yOk V Y
theorem iG_m {V : sVal} {W : sWall} {U : List sWall} {K : Nat → Option (sWall × sSeen)} {S : sSeen} {Y : sYear} {T T' : Nat} (h : iG V W U K S Y T) (hT : T ≤ T') : iG V W U K S Y T' :=
  ⟨h.1, wG_m h.2.1 hT, fun w hw => wG_m (h.2.2.1 w hw) hT, fun m w s e => ⟨wG_m (h.2.2.2.1 m w s e).1 hT, (h.2.2.2.1 m w s e).2⟩, h.2.2.2.2⟩
theorem iG_take {V : sVal} {W : sWall} {U : List sWall} {K : Nat → Option (sWall × sSeen)} {S : sSeen} {Y : sYear} {T : Nat} (h : iG V W U K S Y T) : ∀ w ∈ (W :: U).take 16, wG V (T + 1) w := fun w hw => by
  rcases List.mem_cons.mp (List.mem_of_mem_take hw) with rfl | e
  · exact wG_m h.2.1 (by omega)
  · exact wG_m (h.2.2.1 w e) (by omega)
theorem iG_deed {V : sVal} {W : sWall} {U : List sWall} {K : Nat → Option (sWall × sSeen)} {S : sSeen} {Y : sYear} {T e : Nat} {s p : Int32} (he : e < 4) (h : iG V W U K S Y T) : iG V (dW V W e s p) (dU V W U e s p) K S Y (T + 1) := by
  have h' := iG_m h (Nat.le_succ T)
  refine ⟨h.1, ⟨dW_I h.1 he h.2.1.1, Nat.le_trans dW_t (by have := h.2.1.2; omega)⟩, fun w hw => ?_, h'.2.2.2⟩
  unfold dU at hw
  split at hw
  · exact iG_take h w hw
  · exact h'.2.2.1 w hw
theorem iG_week {V : sVal} {W : sWall} {U : List sWall} {K : Nat → Option (sWall × sSeen)} {S : sSeen} {Y : sYear} {T : Nat} (h : iG V W U K S Y T) : iG V (dDo V W 0 (-1) (-1)) ((W :: U).take 16) K S Y (T + 1) := by
  have h1 := iG_deed (e := 0) (s := -1) (p := -1) (by decide) h
  exact h1
theorem iG_undo {V : sVal} {W : sWall} {U : List sWall} {K : Nat → Option (sWall × sSeen)} {S : sSeen} {Y : sYear} {T : Nat} (h : iG V W U K S Y T) : iG V (uW W U) U.tail K S Y (T + 1) := by
  have h' := iG_m h (Nat.le_succ T)
  refine ⟨h'.1, ?_, fun w hw => h'.2.2.1 w (List.mem_of_mem_tail hw), h'.2.2.2⟩
  cases U with
  | nil => exact h'.2.1
  | cons a U => exact h'.2.2.1 a List.mem_cons_self
theorem iG_see {V : sVal} {W : sWall} {U : List sWall} {K : Nat → Option (sWall × sSeen)} {S : sSeen} {Y : sYear} {T : Nat} {p w : Int32} {b : Bool} (h : iG V W U K S Y T) : iG V W U K (seeS V S p w b) Y (T + 1) := by
  have h' := iG_m h (Nat.le_succ T)
  refine ⟨h'.1, h'.2.1, h'.2.2.1, h'.2.2.2.1, ?_, h'.2.2.2.2.2⟩
  have hN := h.2.2.2.2.1
  have hP8 := h.1.1.2.1
  unfold seeS
  split
  · rename_i hc
    unfold seeOk at hc
    simp only [Bool.and_eq_true, decide_eq_true_eq] at hc
    obtain ⟨⟨h1, h2⟩, h3⟩ := hc
    obtain ⟨k, hk, rfl, -⟩ := isI h1 (by omega)
    obtain ⟨w1, hw1, hw2, rfl⟩ := rIn_k h2 (by decide) (by decide)
    rw [ik_nI (by omega), ik_nI (by omega)]
    refine ⟨by show S.1 + 1 ≤ 8; omega, fun i hi => ?_⟩
    have hi : i < S.1 + 1 := hi
    show fup S.2.1 S.1 k i < vP V ∧ 1 ≤ fup S.2.2.1 S.1 w1 i ∧ fup S.2.2.1 S.1 w1 i ≤ 60
    unfold fup
    by_cases e : i = S.1
    · rw [if_pos e, if_pos e]; exact ⟨hk, hw1, hw2⟩
    · rw [if_neg e, if_neg e]; exact hN.2 i (by omega)
  · exact hN
theorem iG_mark {V : sVal} {W : sWall} {U : List sWall} {K : Nat → Option (sWall × sSeen)} {S : sSeen} {Y : sYear} {T : Nat} {m : Int32} {b : Bool} (h : iG V W U K S Y T) : iG V (mkDo W U K S m b).1 (mkDo W U K S m b).2.1 (mkDo W U K S m b).2.2.1 (mkDo W U K S m b).2.2.2 Y (T + 1) := by
  have h' := iG_m h (Nat.le_succ T)
  unfold mkDo
  cases am_ix m 4 with
  | none => exact h'
  | some k =>
    cases b with
    | false =>
      refine ⟨h'.1, h'.2.1, h'.2.2.1, fun m w s e => ?_, h'.2.2.2.2⟩
      have e : fup K k (some (W, S)) m = some (w, s) := e
      unfold fup at e
      split at e
      · injection e with e
        injection e with e1 e2
        rw [← e1, ← e2]
        exact ⟨h'.2.1, h.2.2.2.2.1⟩
      · exact h'.2.2.2.1 m w s e
    | true =>
      cases hz : K k with
      | none => simp only [hz]; exact h'
      | some x =>
        simp only [hz]
        have hx := h'.2.2.2.1 k x.1 x.2 hz
        exact ⟨h'.1, hx.1, fun w hw => absurd hw List.not_mem_nil, h'.2.2.2.1, hx.2, h'.2.2.2.2.2⟩
theorem mR_rows {V : sVal} {W : sWall} {U : List sWall} {K : Nat → Option (sWall × sSeen)} {S : sSeen} {Y : sYear} {μ μ' : am_M2} (h0 : μ' 133 18 = μ 133 18) (h : ∀ i, i = 139 ∨ i = 140 ∨ i = 142 ∨ i = 145 ∨ i = 146 → μ' i = μ i) (hR : mR μ V W U K S Y) : mR μ' V W U K S Y := by
  obtain ⟨hV, hW, hU, hK, hS, hY⟩ := hR
  have g : ∀ i k, i = 139 ∨ i = 140 ∨ i = 142 ∨ i = 145 ∨ i = 146 → μ' i k = μ i k := fun i k z => by rw [h i z]
  exact ⟨mVal_c (fun i hi => h i (by omega)) hV, mWall_c (fun k a b => g _ _ (by decide)) hW, mUndo_c h0 (fun k a b => g _ _ (by decide)) hU, mMk_c (fun m hm => g _ _ (by decide)) (fun k a b => g _ _ (by decide)) hK, mSeen_c (fun k a b => g _ _ (by decide)) hS, mYear_c (fun k => g _ _ (by decide)) hY⟩
theorem mR_X {V : sVal} {W : sWall} {U : List sWall} {K : Nat → Option (sWall × sSeen)} {S : sSeen} {Y : sYear} {μ μ' : am_M2} (h : frX μ μ') (hR : mR μ V W U K S Y) : mR μ' V W U K S Y := mR_rows (by rw [h 133 (by omega)]) (fun i hi => h i (by omega)) hR
theorem xR_M {V : sVal} {W : sWall} {U : List sWall} {K : Nat → Option (sWall × sSeen)} {S : sSeen} {Y : sYear} {μ μ' : am_M2} (h : frM μ μ') (hR : xR μ V W U K S Y) : xR μ' V W U K S Y := xR_rows (fun i hi => h i (by omega)) hR
/-- the names, in the class and in the model -/
def nmG (ν : am_N2) (V : sVal) (nm : Nat → Nat) : Prop := (∀ s, s < vN V → ν 6 s = lN (nm s) ∧ nm s < 2 ^ 63) ∧ mNmR ν 0 nm (vN V)
def tpG (μ : am_M2) (X : tTp) : Prop := tpOk X ∧ xTp μ X ∧ mTp μ X
def lgG (ν : am_N2) : Prop := xLg ν ∧ mLg ν
def REL (T : Nat) (xs : Nat → Int32) (μ : am_M2) (ν : am_N2) : Prop := ∃ X V nm W U K S Y, tpG μ X ∧ lgG ν ∧ (xR μ V W U K S Y ∧ mR μ V W U K S Y) ∧ iG V W U K S Y T ∧ nmG ν V nm ∧ ∀ k, μ 0 k = xs k
theorem REL_fr {T : Nat} {xs : Nat → Int32} {μ μ' : am_M2} {ν ν' : am_N2} (hf : fr μ μ') (hl : frL ν ν') (h : REL T xs μ ν) : REL (T + 1) xs μ' ν' := by
  obtain ⟨X, V, nm, W, U, K, S, Y, ⟨hX, hTx, hTm⟩, ⟨hLx, hLm⟩, ⟨hRx, hRm⟩, hG, ⟨hn1, hn2, hn3⟩, h0⟩ := h
  exact ⟨X, V, nm, W, U, K, S, Y, ⟨hX, ⟨(hf 3 1 (by omega)).trans hTx.1, fun j hj => (hf 4 j (by omega)).trans (hTx.2 j hj)⟩, ⟨(hf 133 2 (by omega)).trans hTm.1, fun j hj => (hf 134 j (by omega)).trans (hTm.2 j hj)⟩⟩, ⟨fun r hr => (hl 1 r (by omega)).trans (hLx r hr), fun r hr => (hl 138 r (by omega)).trans (hLm r hr)⟩, ⟨xR_fr hf hRx, mR_fr hf hRm⟩, iG_m hG (Nat.le_succ T), ⟨fun s hs => ⟨(hl 6 s (by omega)).trans (hn1 s hs).1, (hn1 s hs).2⟩, fun s hs => ⟨(hl 141 _ (by omega)).trans (hn2 s hs).1, (hn2 s hs).2⟩, hn3⟩, fun k => (hf 0 k (by omega)).trans (h0 k)⟩
theorem REL_act {T : Nat} {xs : Nat → Int32} {X : tTp} {nm : Nat → Nat} {V : sVal} {W : sWall} {U : List sWall} {K : Nat → Option (sWall × sSeen)} {S : sSeen} {Y : sYear} {μ μ1 μ2 : am_M2} {ν : am_N2} (hT : tpG μ X) (hL : lgG ν) (hR1 : xR μ1 V W U K S Y) (hfx : frX μ μ1) (hR2 : mR μ2 V W U K S Y) (hfm : frM μ1 μ2) (hft : frT μ1 μ2) (hG : iG V W U K S Y T) (hN : nmG ν V nm) (h0 : ∀ k, μ 0 k = xs k) : REL T xs μ2 ν := by
  have g : ∀ i, i < 5 → μ2 i = μ i := fun i hi => (hfm i (by omega)).trans (hfx i (by omega))
  refine ⟨X, V, nm, W, U, K, S, Y, ⟨hT.1, ⟨?_, fun j hj => ?_⟩, ⟨?_, fun j hj => ?_⟩⟩, hL, ⟨xR_M hfm hR1, hR2⟩, hG, hN, fun k => ?_⟩
  · rw [g 3 (by omega)]; exact hT.2.1.1
  · rw [g 4 (by omega)]; exact hT.2.1.2 j hj
  · rw [hft 133 2 (by omega), hfx 133 (by omega)]; exact hT.2.2.1
  · rw [hft 134 j (by omega), hfx 134 (by omega)]; exact hT.2.2.2 j hj
  · rw [g 0 (by omega)]; exact h0 k
theorem lN_all (v : Int64) : ∃ a, a < 2 ^ 64 ∧ v = lN a := ⟨v.toUInt64.toNat, v.toUInt64.toNat_lt, by
  exact congrArg UInt64.toInt64 (show v.toUInt64 = UInt64.ofNat v.toUInt64.toNat from by simp)⟩