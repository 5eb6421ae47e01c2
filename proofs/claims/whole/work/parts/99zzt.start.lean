set_option maxHeartbeats 4000000 in
/-- THE LAW, from its entry -/
theorem whole_start {p : Program} {e : Env} {s : State} {m : MethodId} {below : List Frame} {meth : Method} {c : Code} (l : Launch) (hlt : l.stackTraces = false) {b L : Nat} {xs : Nat → Int32} (hL : L ≤ 3584) (C0 : lw_At p s m meth c b L xs) : W p l e room_1 s m #[Value.ref b] below meth c s.heap [] 0 0 (lw_Z below #[Value.ref b] s) (entryFrame m ([Value.ref b] : List Value).toArray 7) := by
  obtain ⟨hx, hb, hret, hml, hown, hts0, hX, hbl, hlocks, hgv⟩ := C0
  have hts : ∀ w ∈ am_gw, w.before #[Value.ref b] s = true := fun w hw => hts0 w (List.mem_filter.mp hw).1
  have hs := flat_of_before _ hgv
  have hA : ∀ a : Nat, a < s.heap.size → ¬ (fun q : Nat => s.heap.size ≤ q) a := fun a ha => Nat.not_le.mpr ha
  obtain ⟨tL, hev, hT⟩ := va_Tof (args := #[Value.ref b]) (s := s) (tm := .static "StoneSecrets" "LANGUAGE" "[J") (ty := .long) (N := 18) (f := fun j => .long (lN (lg j))) (A := fun q : Nat => s.heap.size ≤ q) (by decide) (hs _ (by decide +kernel)) (va_eqt (hs (Cond.eq (.length (.static "StoneSecrets" "LANGUAGE" "[J")) (.int 18)) (by decide +kernel))) (lw_lang hs) hA
  have htl : tL < s.heap.size := by
    obtain ⟨cell, g1, -⟩ := hT
    exact (Array.getElem?_eq_some_iff.mp g1).1
  obtain ⟨D, hD⟩ := Classical.axiomOfChoice (lw_cls hts)
  obtain ⟨cA, hcA⟩ := Classical.axiomOfChoice (lw_arr hts0)
  obtain ⟨G, hG⟩ : ∃ G : am_G, G = (fun i => if i = 0 then b else if i = 1 then tL else s.heap.size + (i - 2), fun k => (D k).1, fun k => (D k).2, cA, s.heap.size) := ⟨_, rfl⟩
  have hb0 : am_base G = s.heap.size := by rw [hG]
  have hg0 : G.1 0 = b := by rw [hG]; rfl
  have hg1 : G.1 1 = tL := by rw [hG]; rfl
  have hAG : am_A G = fun q : Nat => s.heap.size ≤ q := by funext q; show (am_base G ≤ q) = _; rw [hb0]
  have hok : am_ok G := by
    refine ⟨by rw [hg0, hb0]; exact hbl, by rw [hg1, hb0]; exact htl, fun i hi => ?_⟩
    rw [hb0, hG]
    show (if i = 0 then b else if i = 1 then tL else s.heap.size + (i - 2)) = _
    rw [if_neg (by omega), if_neg (by omega)]
  have hK : am_K G s := by
    refine ⟨⟨fun k q hq => ?_, fun k q hk => ?_⟩, lw_nw hts0, va_AO.of (hts0 (.arrayOver (.object "StoneSecrets$Wall")) (by decide +kernel)), va_AO.of (hts0 (.arrayOver (.object "StoneSecrets$Seen")) (by decide +kernel))⟩
    · rw [hG]; exact hD k q hq
    · rw [hG] at hk
      rw [List.getElem?_map] at hk
      cases h : am_tys[k]? with
      | none => rw [h] at hk; cases hk
      | some ty =>
        rw [h] at hk
        cases hk
        exact hcA ty (List.mem_of_getElem? h)
  have hZl : va_Z "StoneSecrets" "LANGUAGE" "[J" (.ref (G.1 1)) (am_A G) s s.heap := by
    rw [hg1, hAG]
    exact va_Zref (hts0 (.laysStatic "StoneSecrets" "LANGUAGE" "[J") (by decide +kernel)) (hts0 (.initialized "StoneSecrets") (by decide +kernel)) hev hA
  have hZ : rs_H G s s.heap := by
    unfold rs_H
    rw [hAG]
    exact ⟨vx_Zqof (hts0 _ rs_lU) (hts0 _ rs_iT) (hs _ (by decide +kernel)) hA, vx_Zqof (hts0 _ rs_lN) (hts0 _ rs_iT) (hs _ (by decide +kernel)) hA, fun w hw => va_any (rs_Bf w hw).2.1 (hts0 w (rs_Bf w hw).2.2)⟩
  have C : am_ctx p s m #[Value.ref b] meth c G code 7 12 false := ⟨hx, hb, hml, hown, hts, hK, hok, by rw [hb0]; exact Nat.le_refl _, fun z => absurd z Bool.false_ne_true⟩
  have hrel : am_rel G am_h0 s s.heap := ⟨fun i x hi => (by cases hi), Or.inr ⟨Nat.le_refl 2, by rw [hb0]; rfl, fun i hi => rfl⟩, by rw [hb0]; exact Nat.le_refl _, hZl⟩
  obtain ⟨⟨pc1, L1, st1, h1⟩, hst, hc, hsame, i1, i2, i3⟩ := am_start_all
  have hc : (Nat.beq pc1 23 && decide (L1 = [some (.ref 0), some (.ref 2), some (.ref 133), some (.ref 151), some (.int 0), none, none]) && decide (st1 = []) && Nat.beq h1.1 152 && Nat.beq h1.2.1 13546) = true := hc
  rw [Bool.and_eq_true, Bool.and_eq_true, Bool.and_eq_true, Bool.and_eq_true] at hc
  obtain ⟨⟨⟨⟨e1, e2⟩, e3⟩, e4⟩, e5⟩ := hc
  have e1 := am_beq e1
  have e2 := of_decide_eq_true e2
  have e3 := of_decide_eq_true e3
  have e4 := am_beq e4
  have e5 := am_beq e5
  subst e1; subst e2; subst e3
  have hR : am_fit room_1 8 := ⟨Nat.le_of_ble_eq_true rfl, Nat.le_of_ble_eq_true rfl⟩
  have hstn := am_stn_sub (am_rc_sub 8) 13 0 am_L0 [] am_h0 _ hst
  have key := am_stn_gd (p := p) (l := l) (e := e) (R := room_1) (s := s) (m := m) (args := #[Value.ref b]) (below := below) (meth := meth) (c := c) (Q := lw_Z below #[Value.ref b] s) (G := G) (nL := 7) (n0 := 2) (s0 := 0) (c0 := (0, 0)) (am_run_mono 8) (fun pc E L st h pc' L' st' h' hE hs hf h0 K => am_snd C (am_sound l 8) hR (am_cut_chk lw_ckl hE) hs hf h0 K) 13 0 am_L0 [] am_h0 _ _ _ _ hstn ⟨Nat.le_refl _, Nat.le_refl _⟩ ⟨by rw [e4]; exact Nat.le_of_ble_eq_true rfl, by rw [e5]; exact Nat.le_of_ble_eq_true rfl⟩ (fun H locs ls hr hl hS => by
    have hXH : va_X (G.1 0) L xs s H := by
      rw [hg0]
      obtain ⟨scr, hcb, g⟩ := hX
      exact ⟨scr, by rw [hS.2.1 b hbl (by rw [hAG]; exact hA b hbl)]; exact hcb, g⟩
    have hTH : va_T .long (G.1 1) 18 (fun j => .long (lN (lg j))) (am_A G) s H := by
      rw [hg1]
      rw [← hAG] at hT
      exact hT.kept hS.2.1
    have hr' := am_rel_0 hr hsame hXH hTH
    rw [e4, e5]
    exact lw_loop C hret hlocks hlt hZ hb0 hL (L / 7) 0 none none _ _ (by omega) (REL_0 xs i1 i2 i3) H locs ls hr' hl hS)
  have hen := am_entry (ρ := G.1) (vs := [.ref 0]) (n := 7) (Nat.le_of_ble_eq_true rfl)
  have hmap : ([.ref 0] : List Value).map (am_rv G.1) = [.ref b] := by show [Value.ref (G.1 0)] = _; rw [hg0]
  rw [hmap] at hen
  have k1 := key s.heap [] _ hrel hen va_S.rf
  rw [lg_entry_eq]
  exact k1