def rl_ws : List Cond := Cond.codeWith rl_y method_3_code 7 (some .int) [(0, 14, 17, 13)] :: am_gw
def rl_rm : Room := { frames := 12, cells := 1, slots := 6, locals := 300 }
abbrev rl_vs (la ta wa wh : Int32) : List Value := [.ref 2, .int la, .int ta, .int wa, .int wh, .ref 151]
theorem rl_d9 : decode method_3_code 9 = .ok (.invokevirtual 7, 3) := by decide +kernel
section RLM
variable {p : Program} {l : Launch} {e : Env} {R : Room} {s : State} {m : MethodId} {args : Array Value} {below : List Frame} {meth : Method} {c : Code} {Q : State → Prop} {G : am_G}
theorem rl_ofW {y : MethodName} {ws ws' : List Cond} {rm : Room} {Pc : Array Value → State → Prop} {Qc : Array Value → State → Outcome → State → Prop} {mc ms : Nat} {free : Addr → Prop} {cc : ByteArray} {maxL : Nat} {ret : Option FieldType} {hh : List (Nat × Nat × Nat × Nat)}
    (hy : plainFor y = true) (hw : ws = Cond.codeWith y cc maxL ret hh :: ws')
    (body : ∀ p e s m args below meth c s₁, BodyLoose p l y (headSpec ws rm) cc maxL ret e s m args below meth c s₁ → c.maxLocals = maxL → Pc args s →
      W p l e (headSpec ws rm).room s m args below meth c s.heap [] 0 0 (MQ below Qc args s mc ms free) (entryFrame m args maxL)) : Met l y ws rm Pc Qc mc ms free := by
  refine MetFree.of_bodySF (code := cc) (maxLocals := maxL) (ret := ret) hy ?_ ?_
  · intro args s m h hn
    obtain ⟨m9, meth, c, hn9, h1, h2, h3, h4, -, h5, h6, -⟩ := Cond.codeWith_spec (atoms_spec (ws := ws) h _ (by rw [hw]; exact List.mem_cons_self))
    cases hn.symm.trans hn9
    exact ⟨meth, c, h1, h2, h3, h4, h5, h6⟩
  · intro p e s m args below meth c s₁ B hml hP _
    have hh0 : s₁.heap = s.heap := by rw [B.state]; rfl
    obtain ⟨t, a1, o, b1, b2, b3⟩ := body p e s m args below meth c s₁ B hml hP s₁ hh0 (Stand.of_body B)
    exact ⟨t, o, a1, b1, b2, ⟨b3.1, b3.2⟩⟩
/-- behind a call that returned -/
theorem rl_afterV {h' : am_H} {pc mc ms : Nat} {H : Heap} {locs : List Loc} {cells slots : Nat} {ls : Array Slot} {st0 rest : List Value} {a : Array Value} {r : Option Value} (hr : vx_Run p l e R s m args below meth c H locs cells slots mc ms (F0 m pc ls st0) rest (am_Qc G r h' a) (fun _ _ _ => False) (am_A G)) (hS : va_S (am_A G) s.heap H locs)
    (kk : ∀ (H1 : Heap) (locs1 : List Loc), am_rel G h' s H1 → va_S (am_A G) s.heap H1 locs1 → W p l e R s m args below meth c H1 locs1 (cells + mc) (slots + ms) Q (F0 m (pc + 3) ls ((r.map (am_rv G.1)).toList ++ rest))) : W p l e R s m args below meth c H locs cells slots Q (F0 m pc ls st0) := by
  have hr' : va_Run p l e R s m args below meth c H locs cells slots mc ms (F0 m pc ls st0) rest (am_Qc G r h' a) (am_A G) := fun T hT X => by
    rcases hr T hT X with h | ⟨q, st₀, t, T', L, E, ce, -, -, -, -, -, hF, -⟩
    · exact h
    · exact hF.elim
  exact am_after hr' hS kk
/-- behind a call that threw -/
theorem rl_afterT {h' : am_H} {pc mc ms : Nat} {H : Heap} {locs : List Loc} {cells slots : Nat} {ls : Array Slot} {st0 rest : List Value} (hr : vx_Run p l e R s m args below meth c H locs cells slots mc ms (F0 m pc ls st0) rest (fun _ _ _ => False) (rs_XC G h') (am_A G)) (hS : va_S (am_A G) s.heap H locs)
    (kk : ∀ (H1 : Heap) (locs1 : List Loc) (ce : Cell) (q : Addr), am_rel G h' s H1 → va_S (am_A G) s.heap H1 locs1 → H1[q]? = some ce → ce.vm = .none → s.vm.findClass rs_X = some ce.cls → vx_W p l e R s m args below meth c H1 locs1 (cells + mc) (slots + ms) Q (F0 m pc ls rest) q) : W p l e R s m args below meth c H locs cells slots Q (F0 m pc ls st0) := by
  intro T hT X
  rcases hr T hT X with ⟨v, st₀, t, T', L, -, -, -, -, -, hF, -⟩ | ⟨q, st₀, t, T', L, E, ce, h0, X', hL, e1, e2, ⟨rfl, hrel, hz, hk⟩, hce, hcv, hcl, st⟩
  · exact hF.elim
  · rw [h0] at hz hk
    have hal : t.vm.Alike s.vm := by rw [← e2]; exact X'.warmed.alike.symm
    obtain ⟨t2, a1, b1⟩ := kk T'.heap (locs ++ L) ce q (by rw [e1]; exact am_rel_moved hal hrel)
      ⟨Nat.le_trans hS.1 (by rw [e1]; exact hz), fun q h1 h2 => by rw [e1, hk q (Nat.lt_of_lt_of_le h1 hS.1) h2]; exact hS.2.1 q h1 h2, fun q hq => by
        rcases List.mem_append.mp hq with z | z
        · exact hS.2.2 q z
        · exact hL q z⟩ (by rw [e1]; exact hce) hcv hcl T' rfl X'
    exact ⟨t2, st.trans a1, b1⟩
/-- the law's own rests -/
theorem rl_met (hlt : l.stackTraces = false) (hok : am_ok G) (la ta wa wh : Int32) (n : Nat) (μ : am_M2) (ν : am_N2) : Met l rl_y rl_ws rl_rm (rs_Pc G (rl_vs la ta wa wh) (am_hp n μ ν)) (am_Qc G (some (.int (rsK (rsQ la ta wa wh)))) (am_hp n μ (rlN ν (rsQ la ta wa wh)))) 1 6 (am_A G) := by
  refine rl_ofW (cc := method_3_code) (maxL := 7) (ret := some .int) (hh := [(0, 14, 17, 13)]) (by decide) rfl ?_
  intro p e s m args below meth c s₁ B hml hP
  obtain ⟨rfl, hK, hrel, hbase, hZ⟩ := hP
  have hts0 := atoms_spec (ws := rl_ws) B.pre
  have hts : ∀ w ∈ am_gw, w.before ((rl_vs la ta wa wh).map (am_rv G.1)).toArray s = true := fun w hw => hts0 w (List.mem_cons_of_mem _ hw)
  have hown : s.vm.findClass (am_own 12) = some m.cls := findClass_of_methodNamed B.named
  have C : am_ctx p s m ((rl_vs la ta wa wh).map (am_rv G.1)).toArray meth c G method_3_code 7 12 false := ⟨B.exec, B.bytes, hml, hown, hts, hK, hok, hbase, fun z => absurd z Bool.false_ne_true⟩
  have hR : am_fit (headSpec rl_ws rl_rm).room 1 := ⟨Nat.le_of_ble_eq_true rfl, Nat.le_of_ble_eq_true rfl⟩
  have htab : c.exceptionTable.toList = tableOf [(0, 14, 17, 13)] := vx_table (x := rl_y) B (hts _ rl_w1)
  have key := am_v_gd (p := p) (l := l) (e := e) (R := (headSpec rl_ws rl_rm).room) (below := below) (Q := MQ below (am_Qc G (some (.int (rsK (rsQ la ta wa wh)))) (am_hp n μ (rlN ν (rsQ la ta wa wh)))) ((rl_vs la ta wa wh).map (am_rv G.1)).toArray s 1 6 (am_A G)) (n0 := 0) (s0 := 0) (c0 := (0, 0)) (G := G) (nL := 7) (rt := some .int) (d := 1)
    (fun pc E L st h pc' L' st' h' hE hs hf h0 K => am_snd C (am_sound l 1) hR (am_cut_chk am_ckr hE) hs hf h0 K) ⟨Nat.le_refl _, Nat.le_refl _⟩ (rl_W 0 n la ta wa wh (μ := μ) (ν := ν)) (fun a b q e' hp => by
      obtain ⟨rfl, rfl, rfl, rfl⟩ := hp
      refine ⟨⟨Nat.le_of_ble_eq_true rfl, Nat.le_of_ble_eq_true rfl⟩, ?_⟩
      intro H locs ls hr hl hS
      have hZ1 : rs_H G s H := rs_H_kept hS.2.1 hZ
      have hsize : ls.size = 7 := hl.2.1
      have hrecv : ∃ cellB : Cell, H[G.1 2]? = some cellB ∧ cellB.vm.isStatics = false ∧ s.vm.findClass "StoneSecrets" = some cellB.cls := by
        obtain ⟨h2, q, hq, h3, cell, g1, g2, g3, -⟩ := hr.1 2 _ (rfl : am_S0 n 2 = some _)
        have hf := (hK.1.1 10 q hq).2.1
        cases hq
        exact ⟨cell, g1, by rw [g3]; rfl, by rw [g2]; exact hf⟩
      have hroom : 2 * (F0 m 9 ls (([.int wh, .int wa, .int ta, .int la, .ref 2, .int (nI 0), .ref 151] : List Value).map (am_rv G.1))).monitorRoom + (([.int (nI 0), .ref (G.1 151)] : List Value).map fun v => v.category).sum ≤ 8 := Nat.le_of_ble_eq_true rfl
      have cw : CallW (headSpec rl_ws rl_rm).room s ((rl_vs la ta wa wh).map (am_rv G.1)).toArray "StoneSecretsLaw" "StoneSecrets" 7 rs_y prog_1_method_46_code 11 (some .int) rs_ws rs_rm 1 6 4 := ⟨callB_of 4 hts (fun w hw => am_gwg rs_w5 hw) rfl rfl rfl (hts _ rs_w8) (hts _ rs_w9) ⟨by decide, by decide, by decide +kernel⟩ ⟨Nat.le_of_ble_eq_true rfl, Nat.le_of_ble_eq_true rfl⟩, hts _ rs_w6, hts _ rs_w7⟩
      cases hq : rsQ la ta wa wh with
      | some r =>
        have hrun := vx_runV (H := H) (locs := locs) (cells := 0) (slots := 0) (p := p) (e := e) (below := below) (meth := meth) (C := "StoneSecrets") (b := G.1 2) (As := [.int la, .int ta, .int wa, .int wh]) (rest := [.int (nI 0), .ref (G.1 151)]) (g := F0 m 9 ls (([.int wh, .int wa, .int ta, .int la, .ref 2, .int (nI 0), .ref 151] : List Value).map (am_rv G.1))) ⟨B.exec, B.bytes, hml, hown, hts⟩ (rs_metS (l := l) hok la ta wa wh n μ ν hq) cw ⟨rs_blind, hrecv, rs_pre (vs := [.ref 2, .int la, .int ta, .int wa, .int wh]) hK hr hZ1⟩ rfl rfl hsize rfl hroom rl_d9 ⟨Nat.le_of_ble_eq_true rfl, Nat.le_of_ble_eq_true rfl⟩
        refine rl_afterV hrun hS fun H1 locs1 hr1 hS1 => ?_
        obtain ⟨k, y, hy, rfl⟩ := rl_A 0 n la ta wa wh r (μ := μ) (ν := ν)
        exact am_frame (c0 := (1, 6)) (n0 := 0) (s0 := 0) C (am_sound l 1) (am_run_mono 1) hR B.returns B.notSynchronized (fun pc E hE => am_cut_chk am_ckr hE) k 12 _ _ _ _ _ hy ⟨Nat.le_refl _, Nat.le_refl _⟩ ⟨Nat.le_of_ble_eq_true rfl, Nat.le_of_ble_eq_true rfl⟩ H1 locs1 ls hr1 hl hS1
      | none =>
        have hrun := vx_runV (H := H) (locs := locs) (cells := 0) (slots := 0) (p := p) (e := e) (below := below) (meth := meth) (C := "StoneSecrets") (b := G.1 2) (As := [.int la, .int ta, .int wa, .int wh]) (rest := [.int (nI 0), .ref (G.1 151)]) (g := F0 m 9 ls (([.int wh, .int wa, .int ta, .int la, .ref 2, .int (nI 0), .ref 151] : List Value).map (am_rv G.1))) ⟨B.exec, B.bytes, hml, hown, hts⟩ (rs_metT (l := l) hlt hok la ta wa wh n μ ν hq) cw ⟨rs_blind, hrecv, rs_pre (vs := [.ref 2, .int la, .int ta, .int wa, .int wh]) hK hr hZ1⟩ rfl rfl hsize rfl hroom rl_d9 ⟨Nat.le_of_ble_eq_true rfl, Nat.le_of_ble_eq_true rfl⟩
        refine rl_afterT hrun hS fun H1 locs1 ce q9 hr1 hS1 hce hcv hcl => ?_
        refine vx_catch (own := "StoneSecretsLaw") (name := rs_X) (E := rs_X) hown [] ⟨0, 14, 17, 13⟩ [] htab (fun z hz => absurd hz List.not_mem_nil) (by decide) (by decide) (hts _ rl_w5) (va_any (rs_Bf _ rs_Bc).2.1 (hZ.2.2 _ rs_Bc)) hce hcv hcl ?_
        refine lv_astore (i := 6) B.exec B.bytes (by decide +kernel) (am_lok_has hl) (by decide) rfl (fun ls' hl' => ?_)
        have hlk : am_lok G.1 ls' 7 (List.replicate 7 none) := ⟨rfl, hl'.1, hl'.2.1, fun i v hi => by
          have q := List.eq_of_mem_replicate (List.mem_of_getElem? hi)
          cases q⟩
        obtain ⟨k, y, hy, rfl⟩ := rl_B 0 n (μ := μ) (ν := ν)
        exact am_frame (c0 := (1, 6)) (n0 := 0) (s0 := 0) C (am_sound l 1) (am_run_mono 1) hR B.returns B.notSynchronized (fun pc E hE => am_cut_chk am_ckr hE) k 19 _ _ _ _ _ hy ⟨Nat.le_refl _, Nat.le_refl _⟩ ⟨Nat.le_of_ble_eq_true rfl, Nat.le_of_ble_eq_true rfl⟩ H1 locs1 ls' hr1 hlk hS1)
  have k1 := key s.heap [] _ hrel (am_entry (vs := rl_vs la ta wa wh) (n := 7) (Nat.le_of_ble_eq_true rfl)) va_S.rf
  rw [lg_entry_eq]
  exact k1
end RLM