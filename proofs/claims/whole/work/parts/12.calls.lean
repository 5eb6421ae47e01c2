section AMK
variable {p : Program} {l : Launch} {e : Env} {R : Room} {s : State} {m : MethodId} {args : Array Value} {below : List Frame} {meth : Method} {c : Code} {Q : State → Prop}
variable {G : am_G} {cc : ByteArray} {nL oc n0 s0 : Nat} {c0 : Nat × Nat} {ini : Bool}
variable {pc nx pc' : Nat} {L L' : am_L} {st st' : List Value} {h h' : am_H}
/-! what holds at a call's begin holds in the callee's first state -/
theorem am_nw_kind {w : Cond} (hw : w ∈ am_nw) : (∃ a i x k, w = .methodLinkNest a i x k) ∨ ∃ a i b n d k, w = .fieldLinkNest a i b n d k := by
  unfold am_nw at hw
  rcases List.mem_append.mp hw with z | z
  · obtain ⟨q, -, hq⟩ := List.mem_filterMap.mp z
    split at hq
    · rename_i h1
      unfold am_wm at hq
      rw [h1] at hq
      cases hy : am_nm[q.2.2.1]? with
      | none => rw [hy] at hq; cases hq
      | some Y => rw [hy] at hq; cases hq; exact Or.inl ⟨_, _, _, _, rfl⟩
    · cases hq
  · rw [List.mem_singleton.mp z]
    exact Or.inr ⟨_, _, _, _, _, _, rfl⟩
theorem am_K_warm {U : State} (hW : s.WarmedH U.vm) (h : am_K G s) : am_K G U := by
  obtain ⟨h1, h2, h3, h4⟩ := h
  refine ⟨va_K.moved hW.alike h1, fun w hw => ?_, va_AO.moved hW.alike h3, va_AO.moved hW.alike h4⟩
  rcases am_nw_kind hw with ⟨a, i, x, k, rfl⟩ | ⟨a, i, b, n, d, k, rfl⟩
  · exact va_Nw.warmM hW (h2 _ hw)
  · exact va_Nw.warmF hW (h2 _ hw)
theorem am_K_same {U V : State} (hv : U.vm = V.vm) (h : am_K G U) : am_K G V := by
  obtain ⟨h1, h2, h3, h4⟩ := h
  have ha : U.vm.Alike V.vm := by rw [hv]; exact Vm.Alike.refl _
  refine ⟨va_K.moved ha h1, fun w hw => ?_, va_AO.moved ha h3, va_AO.moved ha h4⟩
  rcases am_nw_kind hw with ⟨a, i, x, k, rfl⟩ | ⟨a, i, b, n, d, k, rfl⟩
  · exact va_Nw.same rfl hv (h2 _ hw)
  · exact va_Nw.same rfl hv (h2 _ hw)
/-! contracts of the small machine's methods -/
def am_ws (Y : am_Y) : List Cond := Cond.code Y.1 Y.2.1 Y.2.2.1 Y.2.2.2.1 :: am_gw
def am_rm (d : Nat) (h h' : am_H) : Room := { frames := d, cells := h'.1 - h.1, slots := h'.2.1 - h.2.1, locals := 64 * d }
def am_Pc (G : am_G) (vs : List Value) (h : am_H) : Array Value → State → Prop := va_Pc (vs.map (am_rv G.1)) (fun U => am_K G U ∧ am_rel G h U U.heap ∧ am_base G ≤ U.heap.size)
def am_Qc (G : am_G) (r : Option Value) (h' : am_H) : Array Value → State → Outcome → State → Prop := fun _ st o t => o = .returned (r.map (am_rv G.1)) ∧ am_rel G h' t t.heap ∧ va_F (am_A G) st t
def am_Met (l : Launch) (d : Nat) (Y : am_Y) (vs : List Value) (h : am_H) (r : Option Value) (h' : am_H) : Prop :=
  h.1 ≤ h'.1 ∧ h.2.1 ≤ h'.2.1 ∧ ∀ G, am_ok G → Met l Y.1 (am_ws Y) (am_rm d h h') (am_Pc G vs h) (am_Qc G r h') (h'.1 - h.1) (h'.2.1 - h.2.1) (am_A G)
def am_cok (l : Launch) (d : Nat) (cal : am_B) : Prop := ∀ k Y vs h r h', am_nm[k]? = some Y → cal k vs h = some (r, h') → am_Met l d Y vs h r h'
/-- what the tables say of a method -/
def am_YP (Y : am_Y) : Prop := Cond.code Y.1 Y.2.1 Y.2.2.1 Y.2.2.2.1 ∈ am_gw ∧ (Y.2.2.2.2.2.1 = true → Cond.static Y.1 ∈ am_gw) ∧ (Y.2.2.2.2.2.1 = false → Cond.instanceMethod Y.1 ∈ am_gw) ∧ (Y.2.2.2.2.2.1 = false → Y.2.2.2.2.2.2.1 = false → Cond.selects Y.1.cls Y.1 Y.1 ∈ am_gw) ∧ Cond.initialized Y.1.cls ∈ am_gw ∧ Y.1.cls = am_own Y.2.2.2.2.2.2.2 ∧
  (parseMethodDescriptor Y.1.desc).map (fun d => d.parameters.length) = some Y.2.2.2.2.1 ∧ Y.2.2.1 ≤ 40 ∧ Y.2.2.2.2.2.2.2 < 16 ∧ (Y.2.2.2.2.2.2.1 = true → Y.1.name = "<init>") ∧ plainFor Y.1 = true
theorem am_Ychunk {nm : List am_Y} {p1 p2 p3 p4 : List Nat} (hsub : ∀ Y ∈ nm, Y ∈ am_nm) (e1 : nm.map (fun Y => some (Cond.code Y.1 Y.2.1 Y.2.2.1 Y.2.2.2.1)) = p1.map am_tb) (e2 : nm.map (fun Y => some (bif Y.2.2.2.2.2.1 then Cond.static Y.1 else Cond.instanceMethod Y.1)) = p2.map am_tb)
    (e3 : nm.map (fun Y => some (bif (Y.2.2.2.2.2.1 || Y.2.2.2.2.2.2.1) then Cond.initialized Y.1.cls else Cond.selects Y.1.cls Y.1 Y.1)) = p3.map am_tb) (e4 : nm.map (fun Y => some (Cond.initialized Y.1.cls)) = p4.map am_tb) (e5 : nm.map (fun Y => Y.1.cls) = nm.map (fun Y => am_own Y.2.2.2.2.2.2.2))
    (e6 : nm.all (fun Y => decide ((parseMethodDescriptor Y.1.desc).map (fun d => d.parameters.length) = some Y.2.2.2.2.1) && Nat.ble Y.2.2.1 40 && Nat.blt Y.2.2.2.2.2.2.2 16 && (Y.2.2.2.2.2.2.1 == decide (Y.1.name = "<init>"))) = true) : ∀ Y ∈ nm, am_YP Y := by
  intro Y hY
  have a1 := am_rows e1 hY rfl
  have a2 := am_rows e2 hY rfl
  have a3 := am_rows e3 hY rfl
  have a4 := am_rows e4 hY rfl
  have a6 := List.all_eq_true.mp e6 Y hY
  simp only [Bool.and_eq_true, decide_eq_true_eq, beq_iff_eq] at a6
  obtain ⟨⟨⟨b1, b2⟩, b3⟩, b4⟩ := a6
  have b2 : Y.2.2.1 ≤ 40 := Nat.le_of_ble_eq_true b2
  have b3 : Y.2.2.2.2.2.2.2 < 16 := Nat.le_of_ble_eq_true b3
  have a5 : Y.1.cls = am_own Y.2.2.2.2.2.2.2 := by
    obtain ⟨i, hi⟩ := List.getElem?_of_mem hY
    have z := congrArg (fun l => l[i]?) e5
    simpa [List.getElem?_map, hi] using z
  refine ⟨am_gw_in a1 rfl, fun q => ?_, fun q => ?_, fun q q2 => ?_, am_gw_in a4 rfl, a5, b1, b2, b3, fun q => ?_, ?_⟩
  · rw [q] at a2; exact am_gw_in a2 rfl
  · rw [q] at a2; exact am_gw_in a2 rfl
  · rw [q, q2] at a3; exact am_gw_in a3 rfl
  · rw [q] at b4
    exact of_decide_eq_true b4.symm
  · unfold plainFor
    rcases Nat.lt_or_ge Y.2.2.2.2.2.2.2 15 with z | z
    · rw [a5, am_plain _ z]; rfl
    · have hm := List.all_eq_true.mp am_mathp Y (List.mem_filter.mpr ⟨hsub Y hY, by rw [show Y.2.2.2.2.2.2.2 = 15 by omega]; rfl⟩)
      exact hm
theorem am_sub_0 : ∀ Y ∈ am_nm_0, Y ∈ am_nm := fun Y h => List.mem_append_left _ h
theorem am_sub_1 : ∀ Y ∈ am_nm_1, Y ∈ am_nm := fun Y h => List.mem_append_right _ (List.mem_append_left _ h)
theorem am_sub_2 : ∀ Y ∈ am_nm_2, Y ∈ am_nm := fun Y h => List.mem_append_right _ (List.mem_append_right _ (List.mem_append_left _ h))
theorem am_sub_3 : ∀ Y ∈ am_nm_3, Y ∈ am_nm := fun Y h => List.mem_append_right _ (List.mem_append_right _ (List.mem_append_right _ (List.mem_append_left _ h)))
theorem am_sub_4 : ∀ Y ∈ am_nm_4, Y ∈ am_nm := fun Y h => List.mem_append_right _ (List.mem_append_right _ (List.mem_append_right _ (List.mem_append_right _ (List.mem_append_left _ h))))
theorem am_sub_5 : ∀ Y ∈ am_nm_5, Y ∈ am_nm := fun Y h => List.mem_append_right _ (List.mem_append_right _ (List.mem_append_right _ (List.mem_append_right _ (List.mem_append_right _ h))))
theorem am_Yok {Y : am_Y} (h : Y ∈ am_nm) : am_YP Y := by
  unfold am_nm at h
  simp only [List.mem_append] at h
  rcases h with h | h | h | h | h | h
  · exact am_Ychunk am_sub_0 am_y1_0 am_y2_0 am_y3_0 am_y4_0 am_y5_0 am_y6_0 Y h
  · exact am_Ychunk am_sub_1 am_y1_1 am_y2_1 am_y3_1 am_y4_1 am_y5_1 am_y6_1 Y h
  · exact am_Ychunk am_sub_2 am_y1_2 am_y2_2 am_y3_2 am_y4_2 am_y5_2 am_y6_2 Y h
  · exact am_Ychunk am_sub_3 am_y1_3 am_y2_3 am_y3_3 am_y4_3 am_y5_3 am_y6_3 Y h
  · exact am_Ychunk am_sub_4 am_y1_4 am_y2_4 am_y3_4 am_y4_4 am_y5_4 am_y6_4 Y h
  · exact am_Ychunk am_sub_5 am_y1_5 am_y2_5 am_y3_5 am_y4_5 am_y5_5 am_y6_5 Y h
theorem am_good (Y : am_Y) (hY : am_YP Y) : GoodIn am_gw (am_ws Y) := by
  intro w hw
  unfold am_ws at hw
  rcases List.mem_cons.mp hw with rfl | hw
  · exact ⟨hY.1, good_of_word (am_gw_good hY.1)⟩
  · exact ⟨hw, good_of_word (am_gw_good hw)⟩
theorem am_blind {vs : List Value} {G : am_G} {h : am_H} : FrameBlind (am_Pc G vs h) := by
  intro a U g mk q
  obtain ⟨q1, q2, q3, q4⟩ := q
  exact ⟨q1, am_K_same (U := U) (V := U.calling g mk a) rfl q2, am_rel_moved (u := U) (U := U.calling g mk a) (Vm.Alike.refl _) q3, q4⟩
/-- behind a call -/
theorem am_after {mc ms : Nat} {H : Heap} {locs : List Loc} {cells slots : Nat} {ls : Array Slot} {st0 rest : List Value} {a : Array Value} {r : Option Value} (hr : va_Run p l e R s m args below meth c H locs cells slots mc ms (F0 m pc ls st0) rest (am_Qc G r h' a) (am_A G)) (hS : va_S (am_A G) s.heap H locs)
    (kk : ∀ (H1 : Heap) (locs1 : List Loc), am_rel G h' s H1 → va_S (am_A G) s.heap H1 locs1 → W p l e R s m args below meth c H1 locs1 (cells + mc) (slots + ms) Q (F0 m (pc + 3) ls ((r.map (am_rv G.1)).toList ++ rest))) : W p l e R s m args below meth c H locs cells slots Q (F0 m pc ls st0) := by
  intro T hT X
  obtain ⟨v, st₀, t, T', L, h0, X', hL, e1, e2, ⟨hv, hrel, hz, hk⟩, st⟩ := hr T hT X
  have hv : v = r.map (am_rv G.1) := by injection hv
  rw [h0] at hz hk
  have hal : t.vm.Alike s.vm := by rw [← e2]; exact X'.warmed.alike.symm
  obtain ⟨t2, a1, b1⟩ := kk T'.heap (locs ++ L) (by rw [e1]; exact am_rel_moved hal hrel)
    ⟨Nat.le_trans hS.1 (by rw [e1]; exact hz), fun q h1 h2 => by rw [e1, hk q (Nat.lt_of_lt_of_le h1 hS.1) h2]; exact hS.2.1 q h1 h2, fun q hq => by
      rcases List.mem_append.mp hq with z | z
      · exact hS.2.2 q z
      · exact hL q z⟩ T' rfl X'
  rw [hv] at st
  exact ⟨t2, st t2 a1, b1⟩
theorem am_map_tl (r : Option Value) (st : List Value) : (r.map (am_rv G.1)).toList ++ st.map (am_rv G.1) = (r.toList ++ st).map (am_rv G.1) := by
  cases r <;> simp
theorem am_cs_rv (st : List Value) : ((st.map (am_rv G.1)).map fun v => v.category).sum = am_cs st := by
  unfold am_cs
  rw [List.map_map]
  congr 1
  apply List.map_congr_left
  intro v _
  exact am_rv_cat G.1 v
theorem am_pre {vs : List Value} {H : Heap} (hK : am_K G s) (hr : am_rel G h s H) : ∀ U : State, U.heap = H → s.WarmedH U.vm → am_Pc G vs h (vs.map (am_rv G.1)).toArray U := by
  intro U hU hW
  exact ⟨rfl, am_K_warm hW hK, by rw [hU]; exact am_rel_moved hW.alike hr, by rw [hU]; exact hr.2.2.1⟩
/-- what a call asks of the room -/
def am_fit (R : Room) (d : Nat) : Prop := d + 1 ≤ R.frames ∧ 64 * d + 60 ≤ R.locals
theorem am_callB {d i : Nat} {Y : am_Y} {n : Nat} (hY : am_YP Y) (hts : ∀ w ∈ am_gw, w.before args s = true) (hR : am_fit R d) (hl : (Cond.methodLink (am_own oc) i Y.1).before args s = true) (hn : Y.2.2.2.2.1 = n) :
    CallB R s args (am_own oc) i Y.1 Y.2.1 Y.2.2.1 Y.2.2.2.1 (am_ws Y) (am_rm d h h') (h'.1 - h.1) (h'.2.1 - h.2.1) n := by
  obtain ⟨y1, ya, yb, yc, y5, y6, y7, y8, y9, yd⟩ := id hY
  have hmh := am_noMH _ y9
  rw [← y6] at hmh
  refine callB_of n hts (am_good Y hY) rfl rfl rfl (hts _ y5) hl ⟨hmh.1, hmh.2, by rw [← hn]; exact y7⟩ ⟨hR.1, ?_⟩
  show 8 + (Y.2.2.1 + 11) + 64 * d ≤ R.locals
  have := hR.2
  omega
theorem am_callN {d i : Nat} {Y : am_Y} {n : Nat} (hY : am_YP Y) (hts : ∀ w ∈ am_gw, w.before args s = true) (hR : am_fit R d) (hl : va_Nw (.methodLinkNest (am_own oc) i Y.1 "StoneSecrets") s) (hn : Y.2.2.2.2.1 = n) :
    va_CN R s args (am_own oc) i Y.1 "StoneSecrets" Y.2.1 Y.2.2.1 Y.2.2.2.1 (am_ws Y) (am_rm d h h') (h'.1 - h.1) (h'.2.1 - h.2.1) n := by
  obtain ⟨y1, ya, yb, yc, y5, y6, y7, y8, y9, yd⟩ := id hY
  have hmh := am_noMH _ y9
  rw [← y6] at hmh
  refine va_cnB n hts (am_good Y hY) rfl rfl rfl hl (hts _ y5) ⟨hmh.1, hmh.2, by rw [← hn]; exact y7⟩ ⟨hR.1, ?_⟩
  show 8 + (Y.2.2.1 + 11) + 64 * d ≤ R.locals
  have := hR.2
  omega
theorem am_split {st : List Value} {n : Nat} (hn : n ≤ st.length) : st = (st.take n).reverse.reverse ++ st.drop n ∧ (st.take n).reverse.length = n := by
  refine ⟨by rw [List.reverse_reverse, List.take_append_drop], by rw [List.length_reverse, List.length_take]; omega⟩
theorem am_lk {i k : Nat} {ns : Bool} {Y : am_Y} (hk : am_nm[k]? = some Y) (hq : (oc, i, k, ns) ∈ am_lkm) (hK : am_K G s) (hm : ∀ q w, q ∈ am_lkm → am_wm q = some w → w ∈ lw_tbl) : (ns = false ∧ Cond.methodLink (am_own oc) i Y.1 ∈ am_gw) ∨ (ns = true ∧ va_Nw (.methodLinkNest (am_own oc) i Y.1 "StoneSecrets") s) := by
  cases ns with
  | false => exact Or.inl ⟨rfl, am_gw_in (hm _ _ hq (by unfold am_wm; rw [hk]; rfl)) rfl⟩
  | true =>
    refine Or.inr ⟨rfl, hK.2.1 _ ?_⟩
    unfold am_nw
    refine List.mem_append_left _ (List.mem_filterMap.mpr ⟨_, hq, ?_⟩)
    show (if true = true then am_wm (oc, i, k, true) else none) = _
    rw [if_pos rfl]
    unfold am_wm
    rw [hk]
    rfl
theorem am_S_callV {d k n i ci : Nat} {cal : am_B} {ns : Bool} {Y : am_Y} (C : am_ctx p s m args meth c G cc nL oc ini) (hcal : am_cok l d cal) (hR : am_fit R d) (hk : am_nm[k]? = some Y) (hstc : Y.2.2.2.2.2.1 = false) (hii : Y.2.2.2.2.2.2.1 = false) (hn2 : n = Y.2.2.2.2.1 + 1) (hci : Y.2.2.2.2.2.2.2 = ci)
    (hl : (ns = false ∧ Cond.methodLink (am_own oc) i Y.1 ∈ am_gw) ∨ (ns = true ∧ va_Nw (.methodLinkNest (am_own oc) i Y.1 "StoneSecrets") s)) (hd : decode cc pc = .ok (.invokevirtual i, 3)) (hn : nx = pc + 3)
    (hs : (if am_recv ci n st h = true then am_call cal k n L nx st h else none) = some (.inl (pc', L', st', h'))) (hfit : c0.1 + (h'.1 - n0) ≤ R.cells ∧ c0.2 + (h'.2.1 - s0) ≤ R.slots) (h0 : n0 ≤ h.1 ∧ s0 ≤ h.2.1) (K : am_gd p l e R s m args below meth c Q G nL n0 s0 c0 pc' L' st' h') : am_gd p l e R s m args below meth c Q G nL n0 s0 c0 pc L st h := by
  obtain ⟨hx, hb, hml, hown, hts, hK, hok, hbase, -⟩ := C
  subst hn
  split at hs
  · rename_i hrv
    unfold am_call at hs
    split at hs
    · rename_i hcs
      split at hs
      · rename_i v h1 hc
        cases hs
        have hY := am_Yok (List.mem_of_getElem? hk)
        obtain ⟨m1, m2, hM⟩ := hcal _ _ _ _ _ _ hk hc
        intro H locs ls hr hl1 hS
        unfold am_recv at hrv
        split at hrv
        · rename_i a As hvs
          split at hrv
          · rename_i c1 ks hS1
            simp only [Bool.and_eq_true, beq_iff_eq, decide_eq_true_eq] at hrv
            obtain ⟨hc1, hlen⟩ := hrv
            subst hc1
            obtain ⟨e1, e2⟩ := am_split hlen
            rw [hvs] at e1 e2 hM
            obtain ⟨h2, q, hq, h3, cell, g1, g2, g3, -⟩ := hr.1 a _ hS1
            have hcls : Y.1.cls = q.1 := by rw [hY.2.2.2.2.2.1, hci]; exact (am_clok hq).2.2.2.2.2.2.2
            have hrecv : ∃ cellB : Cell, H[G.1 a]? = some cellB ∧ cellB.vm.isStatics = false ∧ s.vm.findClass Y.1.cls = some cellB.cls := ⟨cell, g1, by rw [g3]; rfl, by rw [hcls, g2]; exact (hK.1.1 c1 q hq).2.1⟩
            have hAs : (As.map (am_rv G.1)).length = Y.2.2.2.2.1 := by
              rw [List.length_map]
              have : (Value.ref a :: As).length = n := e2
              rw [List.length_cons] at this
              omega
            have hstk : st.map (am_rv G.1) = (As.map (am_rv G.1)).reverse ++ .ref (G.1 a) :: (st.drop n).map (am_rv G.1) := by
              conv => lhs; rw [e1]
              simp [am_rv]
            have hroom : 2 * (F0 m pc ls (st.map (am_rv G.1))).monitorRoom + (((st.drop n).map (am_rv G.1)).map fun v => v.category).sum ≤ 8 := by
              rw [am_cs_rv]
              show 2 * 0 + _ ≤ 8
              omega
            have f1 : c0.1 + (h.1 - n0) + (h'.1 - h.1) = c0.1 + (h'.1 - n0) := by omega
            have f2 : c0.2 + (h.2.1 - s0) + (h'.2.1 - h.2.1) = c0.2 + (h'.2.1 - s0) := by omega
            have hsize : ls.size = nL := hl1.2.1
            have hrun : va_Run p l e R s m args below meth c H locs (c0.1 + (h.1 - n0)) (c0.2 + (h.2.1 - s0)) (h'.1 - h.1) (h'.2.1 - h.2.1) (F0 m pc ls (st.map (am_rv G.1))) ((st.drop n).map (am_rv G.1)) (am_Qc G v h' (Value.ref (G.1 a) :: As.map (am_rv G.1)).toArray) (am_A G) := by
              rcases hl with ⟨-, hl⟩ | ⟨-, hl⟩
              · exact va_runV (C := Y.1.cls) ⟨hx, hb, hml, hown, hts⟩ (hM G hok) ⟨am_callB hY hts hR (hts _ hl) rfl, hts _ (hY.2.2.1 hstc), hts _ (hY.2.2.2.1 hstc hii)⟩ ⟨am_blind, hrecv, am_pre hK hr⟩ rfl hAs hsize hstk hroom hd ⟨by rw [f1]; exact hfit.1, by rw [f2]; exact hfit.2⟩
              · exact va_runVN (C := Y.1.cls) ⟨hx, hb, hml, hown, hts⟩ (hM G hok) ⟨am_callN hY hts hR hl rfl, hts _ (hY.2.2.1 hstc), hts _ (hY.2.2.2.1 hstc hii)⟩ ⟨am_blind, hrecv, am_pre hK hr⟩ rfl hAs hsize hstk hroom hd ⟨by rw [f1]; exact hfit.1, by rw [f2]; exact hfit.2⟩
            refine am_after hrun hS fun H1 locs1 hr1 hS1 => ?_
            rw [f1, f2, am_map_tl]
            exact K H1 locs1 ls hr1 hl1 hS1
          · cases hrv
        · cases hrv
      · cases hs
    · cases hs
  · cases hs
theorem am_S_callI {d k n i : Nat} {cal : am_B} {ns : Bool} {Y : am_Y} (C : am_ctx p s m args meth c G cc nL oc ini) (hcal : am_cok l d cal) (hR : am_fit R d) (hk : am_nm[k]? = some Y) (hstc : Y.2.2.2.2.2.1 = false) (hii : Y.2.2.2.2.2.2.1 = true) (hrt : Y.2.2.2.1 = none) (hn2 : n = Y.2.2.2.2.1 + 1)
    (hl : (ns = false ∧ Cond.methodLink (am_own oc) i Y.1 ∈ am_gw) ∨ (ns = true ∧ va_Nw (.methodLinkNest (am_own oc) i Y.1 "StoneSecrets") s)) (hd : decode cc pc = .ok (.invokespecial i, 3)) (hn : nx = pc + 3)
    (hs : (if am_refq n st = true then am_call cal k n L nx st h else none) = some (.inl (pc', L', st', h'))) (hfit : c0.1 + (h'.1 - n0) ≤ R.cells ∧ c0.2 + (h'.2.1 - s0) ≤ R.slots) (h0 : n0 ≤ h.1 ∧ s0 ≤ h.2.1) (K : am_gd p l e R s m args below meth c Q G nL n0 s0 c0 pc' L' st' h') : am_gd p l e R s m args below meth c Q G nL n0 s0 c0 pc L st h := by
  obtain ⟨hx, hb, hml, hown, hts, hK, hok, hbase, -⟩ := C
  subst hn
  split at hs
  · rename_i hrv
    unfold am_call at hs
    split at hs
    · rename_i hcs
      split at hs
      · rename_i v h1 hc
        cases hs
        have hY := am_Yok (List.mem_of_getElem? hk)
        obtain ⟨m1, m2, hM⟩ := hcal _ _ _ _ _ _ hk hc
        intro H locs ls hr hl1 hS
        unfold am_refq at hrv
        split at hrv
        · rename_i a As hvs
          have hlen : n ≤ st.length := of_decide_eq_true hrv
          obtain ⟨e1, e2⟩ := am_split hlen
          rw [hvs] at e1 e2 hM
          have hAs : (As.map (am_rv G.1)).length = Y.2.2.2.2.1 := by
            rw [List.length_map]
            have : (Value.ref a :: As).length = n := e2
            rw [List.length_cons] at this
            omega
          have hstk : st.map (am_rv G.1) = (As.map (am_rv G.1)).reverse ++ .ref (G.1 a) :: (st.drop n).map (am_rv G.1) := by
            conv => lhs; rw [e1]
            simp [am_rv]
          have hroom : 2 * (F0 m pc ls (st.map (am_rv G.1))).monitorRoom + (((st.drop n).map (am_rv G.1)).map fun v => v.category).sum ≤ 8 := by
            rw [am_cs_rv]
            show 2 * 0 + _ ≤ 8
            omega
          have f1 : c0.1 + (h.1 - n0) + (h'.1 - h.1) = c0.1 + (h'.1 - n0) := by omega
          have f2 : c0.2 + (h.2.1 - s0) + (h'.2.1 - h.2.1) = c0.2 + (h'.2.1 - s0) := by omega
          have hsize : ls.size = nL := hl1.2.1
          have hrun : va_Run p l e R s m args below meth c H locs (c0.1 + (h.1 - n0)) (c0.2 + (h.2.1 - s0)) (h'.1 - h.1) (h'.2.1 - h.2.1) (F0 m pc ls (st.map (am_rv G.1))) ((st.drop n).map (am_rv G.1)) (am_Qc G v h' (Value.ref (G.1 a) :: As.map (am_rv G.1)).toArray) (am_A G) := by
            rcases hl with ⟨-, hl⟩ | ⟨-, hl⟩
            · have hcb := am_callB (h := h) (h' := h') hY hts hR (hts _ hl) rfl
              rw [hrt] at hcb
              exact va_runI ⟨hx, hb, hml, hown, hts⟩ (hM G hok) ⟨hcb, hY.2.2.2.2.2.2.2.2.2.1 hii, hts _ (hY.2.2.1 hstc)⟩ ⟨am_blind, am_pre hK hr⟩ rfl hAs hsize hstk hroom hd ⟨by rw [f1]; exact hfit.1, by rw [f2]; exact hfit.2⟩
            · have hcb := am_callN (h := h) (h' := h') hY hts hR hl rfl
              rw [hrt] at hcb
              exact va_runIN ⟨hx, hb, hml, hown, hts⟩ (hM G hok) ⟨hcb, hY.2.2.2.2.2.2.2.2.2.1 hii, hts _ (hY.2.2.1 hstc)⟩ ⟨am_blind, am_pre hK hr⟩ rfl hAs hsize hstk hroom hd ⟨by rw [f1]; exact hfit.1, by rw [f2]; exact hfit.2⟩
          refine am_after hrun hS fun H1 locs1 hr1 hS1 => ?_
          rw [f1, f2, am_map_tl]
          exact K H1 locs1 ls hr1 hl1 hS1
        · cases hrv
      · cases hs
    · cases hs
  · cases hs
theorem am_S_callS {d k n i : Nat} {cal : am_B} {ns : Bool} {Y : am_Y} (C : am_ctx p s m args meth c G cc nL oc ini) (hcal : am_cok l d cal) (hR : am_fit R d) (hk : am_nm[k]? = some Y) (hstc : Y.2.2.2.2.2.1 = true) (hn2 : n = Y.2.2.2.2.1)
    (hl : (ns = false ∧ Cond.methodLink (am_own oc) i Y.1 ∈ am_gw) ∨ (ns = true ∧ va_Nw (.methodLinkNest (am_own oc) i Y.1 "StoneSecrets") s)) (hd : decode cc pc = .ok (.invokestatic i, 3)) (hn : nx = pc + 3)
    (hs : (if n ≤ st.length then am_call cal k n L nx st h else none) = some (.inl (pc', L', st', h'))) (hfit : c0.1 + (h'.1 - n0) ≤ R.cells ∧ c0.2 + (h'.2.1 - s0) ≤ R.slots) (h0 : n0 ≤ h.1 ∧ s0 ≤ h.2.1) (K : am_gd p l e R s m args below meth c Q G nL n0 s0 c0 pc' L' st' h') : am_gd p l e R s m args below meth c Q G nL n0 s0 c0 pc L st h := by
  obtain ⟨hx, hb, hml, hown, hts, hK, hok, hbase, -⟩ := C
  subst hn
  split at hs
  · rename_i hlen
    unfold am_call at hs
    split at hs
    · rename_i hcs
      split at hs
      · rename_i v h1 hc
        cases hs
        have hY := am_Yok (List.mem_of_getElem? hk)
        obtain ⟨m1, m2, hM⟩ := hcal _ _ _ _ _ _ hk hc
        intro H locs ls hr hl1 hS
        obtain ⟨e1, e2⟩ := am_split hlen
        generalize hvs : (st.take n).reverse = As at e1 e2 hM
        have hAs : (As.map (am_rv G.1)).length = Y.2.2.2.2.1 := by
          rw [List.length_map, e2, hn2]
        have hstk : st.map (am_rv G.1) = (As.map (am_rv G.1)).reverse ++ (st.drop n).map (am_rv G.1) := by
          conv => lhs; rw [e1]
          simp
        have hroom : 2 * (F0 m pc ls (st.map (am_rv G.1))).monitorRoom + (((st.drop n).map (am_rv G.1)).map fun v => v.category).sum ≤ 8 := by
          rw [am_cs_rv]
          show 2 * 0 + _ ≤ 8
          omega
        have f1 : c0.1 + (h.1 - n0) + (h'.1 - h.1) = c0.1 + (h'.1 - n0) := by omega
        have f2 : c0.2 + (h.2.1 - s0) + (h'.2.1 - h.2.1) = c0.2 + (h'.2.1 - s0) := by omega
        have hsize : ls.size = nL := hl1.2.1
        have hrun : va_Run p l e R s m args below meth c H locs (c0.1 + (h.1 - n0)) (c0.2 + (h.2.1 - s0)) (h'.1 - h.1) (h'.2.1 - h.2.1) (F0 m pc ls (st.map (am_rv G.1))) ((st.drop n).map (am_rv G.1)) (am_Qc G v h' (As.map (am_rv G.1)).toArray) (am_A G) := by
          rcases hl with ⟨-, hl⟩ | ⟨-, hl⟩
          · exact va_runS ⟨hx, hb, hml, hown, hts⟩ (hM G hok) ⟨am_callB hY hts hR (hts _ hl) rfl, hts _ (hY.2.1 hstc)⟩ ⟨am_blind, am_pre hK hr⟩ rfl hAs hsize hstk hroom hd ⟨by rw [f1]; exact hfit.1, by rw [f2]; exact hfit.2⟩
          · exact va_runSN ⟨hx, hb, hml, hown, hts⟩ (hM G hok) ⟨am_callN hY hts hR hl rfl, hts _ (hY.2.1 hstc), trivial⟩ ⟨am_blind, am_pre hK hr⟩ rfl hAs hsize hstk hroom hd ⟨by rw [f1]; exact hfit.1, by rw [f2]; exact hfit.2⟩
        refine am_after hrun hS fun H1 locs1 hr1 hS1 => ?_
        rw [f1, f2, am_map_tl]
        exact K H1 locs1 ls hr1 hl1 hS1
      · cases hs
    · cases hs
  · cases hs
theorem am_S_objInit {i d : Nat} (C : am_ctx p s m args meth c G cc nL oc ini) (hR : am_fit R d) (hw : Cond.methodLink (am_own oc) i objectInit ∈ am_gw) (hd : decode cc pc = .ok (.invokespecial i, 3)) (hn : nx = pc + 3)
    (hs : (match st with
      | .ref _ :: r => if am_cs r ≤ 8 then am_n nx L r h else none
      | _ => none) = some (.inl (pc', L', st', h'))) (K : am_gd p l e R s m args below meth c Q G nL n0 s0 c0 pc' L' st' h') : am_gd p l e R s m args below meth c Q G nL n0 s0 c0 pc L st h := by
  obtain ⟨hx, hb, hml, hown, hts, hK, hok, hbase, -⟩ := C
  subst hn
  split at hs
  · rename_i a r
    split at hs
    · rename_i hcs
      cases hs
      intro H locs ls hr hl hS
      refine W.objInit hx hb hown (hts _ hw) (hts _ am_oi_in.1) (hts _ am_oi_in.2) rfl (hl.2.1.trans hml.symm) (a := G.1 a) (rest := st'.map (am_rv G.1)) rfl hd (by have := hR.1; omega) ?_ (K H locs ls hr hl hS)
      rw [am_cs_rv]
      show 2 * 0 + _ + 12 ≤ _
      have := hR.2
      omega
    · cases hs
  · cases hs
end AMK
