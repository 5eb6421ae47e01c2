def rlP (l t w wh : Int32) (n : Nat) (μ : am_M2) (ν : am_N2) (a : Nat) (b : am_L) (c : List Value) (e : am_H) : Prop := a = 9 ∧ b = [some (.ref 2), some (.int l), some (.int t), some (.int w), some (.int wh), some (.ref 151), none] ∧ c = [.int wh, .int w, .int t, .int l, .ref 2, .int (nI 0), .ref 151] ∧ e = am_hp n μ ν
theorem rl_W (d n : Nat) (l t w wh : Int32) {μ : am_M2} {ν : am_N2} : am_v (d + 1) (Option.some FieldType.int) am_gr 0 [some (.ref 2), some (.int l), some (.int t), some (.int w), some (.int wh), some (.ref 151), none] [] (am_hp n μ ν) (rlP l t w wh n μ ν) := by
  refine am_e_aload rfl rfl ?_
  refine am_e_iconst (v := nI 0) rfl rfl ?_
  refine am_e_aload_n rfl rfl ?_
  refine am_e_iload_n rfl rfl ?_
  refine am_e_iload_n rfl rfl ?_
  refine am_e_iload_n rfl rfl ?_
  refine am_e_iload rfl rfl ?_
  exact am_v0 ⟨rfl, rfl, rfl, rfl⟩
theorem rl_A (d n : Nat) (l t w wh r : Int32) {μ : am_M2} {ν : am_N2} : am_w (d + 1) (Option.some FieldType.int) am_gr 12 [some (.ref 2), some (.int l), some (.int t), some (.int w), some (.int wh), some (.ref 151), none] [.int r, .int (nI 0), .ref 151] (am_hp n μ ν) (fun y => y = (some (.int (nI 0)), am_hp n μ (am_upL ν 151 0 r.toInt64))) := by
  refine am_q_i2l rfl rfl ?_
  refine am_q_last rfl rfl (show am_ix (nI 0) 1 = some 0 from rfl) ?_
  refine am_q_goto rfl ?_
  refine am_q_iconst (v := nI 0) rfl rfl ?_
  refine am_q_ireturn rfl rfl rfl ?_
  rfl
theorem rl_B (d n : Nat) {μ : am_M2} {ν : am_N2} : am_w (d + 1) (Option.some FieldType.int) am_gr 19 (List.replicate 7 none) [] (am_hp n μ ν) (fun y => y = (some (.int (nI 1)), am_hp n μ ν)) := by
  refine am_q_iconst (v := nI 1) rfl rfl ?_
  refine am_q_ireturn rfl rfl rfl ?_
  rfl
def rlN (ν : am_N2) (q : Option Int32) : am_N2 := match q with
  | some r => am_upL ν 151 0 r.toInt64
  | none => ν
def rs_H (G : am_G) (U : State) (H : Heap) : Prop := vx_Zq Bundle.tN "UNASSIGNED_STACK" Bundle.steD (am_A G) U H ∧ vx_Zq Bundle.tN "SUPPRESSED_SENTINEL" Bundle.listD (am_A G) U H ∧ ∀ w ∈ rs_B, va_Nw w U
theorem rs_H_warm {G : am_G} {s U : State} {H : Heap} (hW : s.WarmedH U.vm) (h : rs_H G s H) : rs_H G U H := ⟨vx_Zq.moved hW.alike h.1, vx_Zq.moved hW.alike h.2.1, fun w hw => va_tabs (rs_Bf w hw).2.1 (rfl : (s.setVm U.vm).vm = U.vm) (Cond.faceAtom_setVm hW.alike w (rs_Bf w hw).1 (h.2.2 w hw))⟩
theorem rs_H_same {G : am_G} {U V : State} {H : Heap} (hv : U.vm = V.vm) (h : rs_H G U H) : rs_H G V H := ⟨vx_Zq.moved (by rw [hv]; exact Vm.Alike.refl _) h.1, vx_Zq.moved (by rw [hv]; exact Vm.Alike.refl _) h.2.1, fun w hw => va_tabs (rs_Bf w hw).2.1 hv (h.2.2 w hw)⟩
theorem rs_H_kept {G : am_G} {U : State} {H H1 : Heap} (hk : ∀ a : Nat, a < H.size → ¬ am_A G a → H1[a]? = H[a]?) (h : rs_H G U H) : rs_H G U H1 := ⟨vx_Zq.kept h.1 hk, vx_Zq.kept h.2.1 hk, h.2.2⟩
def rs_Pc (G : am_G) (vs : List Value) (h : am_H) : Array Value → State → Prop := va_Pc (vs.map (am_rv G.1)) (fun U => am_K G U ∧ am_rel G h U U.heap ∧ am_base G ≤ U.heap.size ∧ rs_H G U U.heap)
theorem rs_blind {vs : List Value} {G : am_G} {h : am_H} : FrameBlind (rs_Pc G vs h) := by
  intro a U g mk q
  obtain ⟨q1, q2, q3, q4, q5⟩ := q
  exact ⟨q1, am_K_same (U := U) (V := U.calling g mk a) rfl q2, am_rel_moved (u := U) (U := U.calling g mk a) (Vm.Alike.refl _) q3, q4, rs_H_same (U := U) (V := U.calling g mk a) rfl q5⟩
theorem rs_pre {G : am_G} {s : State} {h : am_H} {vs : List Value} {H : Heap} (hK : am_K G s) (hr : am_rel G h s H) (hZ : rs_H G s H) : ∀ U : State, U.heap = H → s.WarmedH U.vm → rs_Pc G vs h (vs.map (am_rv G.1)).toArray U := by
  intro U hU hW
  exact ⟨rfl, am_K_warm hW hK, by rw [hU]; exact am_rel_moved hW.alike hr, by rw [hU]; exact hr.2.2.1, by rw [hU]; exact rs_H_warm hW hZ⟩
theorem am_rel_grow {G : am_G} {h : am_H} {U : State} {H H1 : Heap} (h1 : h.1 = 0) (hz : H.size ≤ H1.size) (hk : ∀ q : Nat, q < H.size → H1[q]? = H[q]?) (hr : am_rel G h U H) : am_rel G h U H1 := ⟨fun i x hi => am_at_kept (hk _ (am_at_lt (hr.1 i x hi))) (hr.1 i x hi), Or.inl h1, Nat.le_trans hr.2.2.1 hz, hr.2.2.2.kept fun q hq _ => hk q hq⟩
def rs_ws : List Cond := Cond.code rs_y prog_1_method_46_code 11 (some .int) :: am_gw
def rs_rm : Room := { frames := 10, cells := 1, slots := 6, locals := 200 }
theorem am_gwg {w : Cond} {a : Cond} (ha : a ∈ am_gw) (hw : w ∈ a :: am_gw) : w ∈ am_gw ∧ ((w.onTables && w.keeps) = true ∨ ∃ ty, w = .arrayClass ty) := by
  rcases List.mem_cons.mp hw with rfl | hw
  · exact ⟨ha, good_of_word (am_gw_good ha)⟩
  · exact ⟨hw, good_of_word (am_gw_good hw)⟩
section RSM
variable {p : Program} {l : Launch} {e : Env} {R : Room} {s : State} {m : MethodId} {args : Array Value} {below : List Frame} {meth : Method} {c : Code}
abbrev rs_XC (G : am_G) (h : am_H) : String → State → State → Prop := fun E st t => E = rs_X ∧ am_rel G h t t.heap ∧ va_F (am_A G) st t
theorem rs_ck1 : am_chk 10 false prog_1_method_46_code 142 (.ireturn, 143, 0, 0, 0, 0, .null) = true := by decide +kernel
theorem rs_ck2 : am_chk 10 false prog_1_method_46_code 168 (.ireturn, 169, 0, 0, 0, 0, .null) = true := by decide +kernel
/-- where it returns -/
theorem rs_metS {G : am_G} (hok : am_ok G) (la ta wa wh : Int32) (n : Nat) (μ : am_M2) (ν : am_N2) {r : Int32} (hq : rsQ la ta wa wh = some r) : vx_Met l rs_y rs_ws rs_rm (rs_Pc G [.ref 2, .int la, .int ta, .int wa, .int wh] (am_hp n μ ν)) (am_Qc G (some (.int r)) (am_hp n μ ν)) (fun _ _ _ => False) 1 6 (am_A G) := by
  refine vx_ofW (cc := prog_1_method_46_code) (maxL := 11) (ret := some .int) (by decide) rfl ?_
  intro p e s m args below meth c s₁ B hml ht hP
  obtain ⟨rfl, hK, hrel, hbase, hZ⟩ := hP
  have hts0 := atoms_spec (ws := rs_ws) B.pre
  have hts : ∀ w ∈ am_gw, w.before (([.ref 2, .int la, .int ta, .int wa, .int wh] : List Value).map (am_rv G.1)).toArray s = true := fun w hw => hts0 w (List.mem_cons_of_mem _ hw)
  have hown : s.vm.findClass (am_own 10) = some m.cls := findClass_of_methodNamed B.named
  have C : am_ctx p s m (([.ref 2, .int la, .int ta, .int wa, .int wh] : List Value).map (am_rv G.1)).toArray meth c G prog_1_method_46_code 11 10 false := ⟨B.exec, B.bytes, hml, hown, hts, hK, hok, hbase, fun z => absurd z Bool.false_ne_true⟩
  have hR : am_fit (headSpec rs_ws rs_rm).room 1 := ⟨Nat.le_of_ble_eq_true rfl, Nat.le_of_ble_eq_true rfl⟩
  have key := am_v_gd (p := p) (l := l) (e := e) (R := (headSpec rs_ws rs_rm).room) (below := below) (Q := vx_MQ below (am_Qc G (some (.int r)) (am_hp n μ ν)) (fun _ _ _ => False) (([.ref 2, .int la, .int ta, .int wa, .int wh] : List Value).map (am_rv G.1)).toArray s 1 6 (am_A G)) (n0 := 0) (s0 := 0) (c0 := (0, 0)) (G := G) (nL := 11) (rt := some .int) (d := 1)
    (fun pc E L st h pc' L' st' h' hE hs hf h0 K => (am_ckx1 hE).elim (fun hc => am_snd C (am_sound l 1) hR hc hs hf h0 K) (fun hc => rs_snd C (am_sound l 1) hR hc hs hf h0 K)) ⟨Nat.le_refl _, Nat.le_refl _⟩ (rx_W 0 n la ta wa wh (μ := μ) (ν := ν)) (fun a b q e' hp => by
      obtain ⟨rfl, hp⟩ := hp
      refine ⟨⟨Nat.le_of_ble_eq_true rfl, Nat.le_of_ble_eq_true rfl⟩, ?_⟩
      rcases hp with ⟨r', hr', ha, rfl⟩ | ⟨hn, -⟩
      · have e0 : r' = r := Option.some.inj (hr'.symm.trans hq)
        subst e0
        intro H locs ls hr hl hS
        refine W.widen (k := 1) (n := 6) (Nat.le_of_ble_eq_true rfl) (Nat.le_of_ble_eq_true rfl) ?_
        refine vx_ret ?_
        rcases ha with rfl | rfl
        · exact am_S_end (c0 := (1, 6)) (n0 := 0) (s0 := 0) (rt := some .int) (cal := am_run 1) C B.returns B.notSynchronized rs_ck1 rfl H locs ls hr hl hS
        · exact am_S_end (c0 := (1, 6)) (n0 := 0) (s0 := 0) (rt := some .int) (cal := am_run 1) C B.returns B.notSynchronized rs_ck2 rfl H locs ls hr hl hS
      · rw [hq] at hn; cases hn)
  have k1 := key s.heap [] _ hrel (am_entry (vs := [.ref 2, .int la, .int ta, .int wa, .int wh]) (n := 11) (Nat.le_of_ble_eq_true rfl)) va_S.rf
  rw [lg_entry_eq]
  exact k1
/-- where it throws -/
theorem rs_metT (hlt : l.stackTraces = false) {G : am_G} (hok : am_ok G) (la ta wa wh : Int32) (n : Nat) (μ : am_M2) (ν : am_N2) (hq : rsQ la ta wa wh = none) : vx_Met l rs_y rs_ws rs_rm (rs_Pc G [.ref 2, .int la, .int ta, .int wa, .int wh] (am_hp n μ ν)) (fun _ _ _ _ => False) (rs_XC G (am_hp n μ ν)) 1 6 (am_A G) := by
  refine vx_ofW (cc := prog_1_method_46_code) (maxL := 11) (ret := some .int) (by decide) rfl ?_
  intro p e s m args below meth c s₁ B hml ht hP
  obtain ⟨rfl, hK, hrel, hbase, hZ⟩ := hP
  have hts0 := atoms_spec (ws := rs_ws) B.pre
  have hts : ∀ w ∈ am_gw, w.before (([.ref 2, .int la, .int ta, .int wa, .int wh] : List Value).map (am_rv G.1)).toArray s = true := fun w hw => hts0 w (List.mem_cons_of_mem _ hw)
  have hown : s.vm.findClass (am_own 10) = some m.cls := findClass_of_methodNamed B.named
  have C : am_ctx p s m (([.ref 2, .int la, .int ta, .int wa, .int wh] : List Value).map (am_rv G.1)).toArray meth c G prog_1_method_46_code 11 10 false := ⟨B.exec, B.bytes, hml, hown, hts, hK, hok, hbase, fun z => absurd z Bool.false_ne_true⟩
  have hR : am_fit (headSpec rs_ws rs_rm).room 1 := ⟨Nat.le_of_ble_eq_true rfl, Nat.le_of_ble_eq_true rfl⟩
  have hat : ∀ w ∈ rs_at, w.before (([.ref 2, .int la, .int ta, .int wa, .int wh] : List Value).map (am_rv G.1)).toArray s = true := vx_hat (B := rs_B) (fun w hw => hts w (am_gw_in (rs_in w hw) (List.mem_filter.mp hw).2)) (fun w hw => hw) (fun w hw => va_any (rs_Bf w hw).2.1 (hZ.2.2 w hw))
  have key := am_v_gd (p := p) (l := l) (e := e) (R := (headSpec rs_ws rs_rm).room) (below := below) (Q := vx_MQ below (fun _ _ _ _ => False) (rs_XC G (am_hp n μ ν)) (([.ref 2, .int la, .int ta, .int wa, .int wh] : List Value).map (am_rv G.1)).toArray s 1 6 (am_A G)) (n0 := 0) (s0 := 0) (c0 := (0, 0)) (G := G) (nL := 11) (rt := some .int) (d := 1)
    (fun pc E L st h pc' L' st' h' hE hs hf h0 K => (am_ckx1 hE).elim (fun hc => am_snd C (am_sound l 1) hR hc hs hf h0 K) (fun hc => rs_snd C (am_sound l 1) hR hc hs hf h0 K)) ⟨Nat.le_refl _, Nat.le_refl _⟩ (rx_W 0 n la ta wa wh (μ := μ) (ν := ν)) (fun a b q e' hp => by
      obtain ⟨rfl, hp⟩ := hp
      refine ⟨⟨Nat.le_of_ble_eq_true rfl, Nat.le_of_ble_eq_true rfl⟩, ?_⟩
      rcases hp with ⟨r', hr', ha, rfl⟩ | ⟨hn, ha, rfl⟩
      · rw [hq] at hr'; cases hr'
      · intro H locs ls hr hl hS
        have hx : ∀ t : State, s.vm.Alike t.vm → H.size ≤ t.heap.size → (∀ q : Nat, q < H.size → t.heap[q]? = H[q]?) → rs_XC G (am_hp n μ ν) rs_X s t := fun t hal hz hk => ⟨rfl, am_rel_moved hal (am_rel_grow rfl hz hk hr), ⟨Nat.le_trans hS.1 hz, fun q h1 h2 => (hk q (Nat.lt_of_lt_of_le h1 hS.1)).trans (hS.2.1 q h1 h2)⟩⟩
        rcases ha with rfl | rfl
        · exact vx_throw0 (own := "StoneSecrets") (cls := rs_X) (names := ["java/lang/RuntimeException", "java/lang/Exception"]) (ik := 330) (ic := 332) (A := am_A G) B.exec B.bytes hlt hown rs_fit.1 rs_fit.2 (hts _ rs_w1) (hts _ rs_w2) hat rs_ot hZ.1 hZ.2.1 hS (hl.2.1.trans hml.symm) (by decide +kernel) (by decide +kernel) (by decide +kernel) (by decide +kernel) (fun x hx => (ht x hx).elim) (Nat.le_of_ble_eq_true rfl) (Nat.le_of_ble_eq_true rfl) (Nat.le_of_ble_eq_true rfl) (Nat.le_of_ble_eq_true rfl) B.notSynchronized hx (fun z hz => hS.2.2 z hz) (Nat.le_of_ble_eq_true rfl) (Nat.le_of_ble_eq_true rfl)
        · exact vx_throw0 (own := "StoneSecrets") (cls := rs_X) (names := ["java/lang/RuntimeException", "java/lang/Exception"]) (ik := 330) (ic := 332) (A := am_A G) B.exec B.bytes hlt hown rs_fit.1 rs_fit.2 (hts _ rs_w1) (hts _ rs_w2) hat rs_ot hZ.1 hZ.2.1 hS (hl.2.1.trans hml.symm) (by decide +kernel) (by decide +kernel) (by decide +kernel) (by decide +kernel) (fun x hx => (ht x hx).elim) (Nat.le_of_ble_eq_true rfl) (Nat.le_of_ble_eq_true rfl) (Nat.le_of_ble_eq_true rfl) (Nat.le_of_ble_eq_true rfl) B.notSynchronized hx (fun z hz => hS.2.2 z hz) (Nat.le_of_ble_eq_true rfl) (Nat.le_of_ble_eq_true rfl))
  have k1 := key s.heap [] _ hrel (am_entry (vs := [.ref 2, .int la, .int ta, .int wa, .int wh]) (n := 11) (Nat.le_of_ble_eq_true rfl)) va_S.rf
  rw [lg_entry_eq]
  exact k1
end RSM