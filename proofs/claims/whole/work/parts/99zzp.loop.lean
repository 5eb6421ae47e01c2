theorem lw_inc (d n t : Nat) (l5 l6 : Option Value) {μ : am_M2} {ν : am_N2} : am_v (d + 46) (Option.some FieldType.boolean) am_gl 1549 [some (.ref 0), some (.ref 2), some (.ref 133), some (.ref 151), some (.int (nI (7 * t))), l5, l6] [] (am_hp n μ ν) (fun a b c e => a = 23 ∧ b = [some (.ref 0), some (.ref 2), some (.ref 133), some (.ref 151), some (.int (nI (7 * (t + 1)))), l5, l6] ∧ c = [] ∧ e = am_hp n μ ν) := by
  refine am_e_iinc [some _, some _, some _, some _, some _, _, _] rfl (c := nI 7) rfl rfl (Nat.le_of_ble_eq_true rfl) (nI_add _ _) rfl ?_
  refine am_e_goto rfl ?_
  exact am_v0 ⟨rfl, rfl, rfl, rfl⟩

theorem lw_ckl : am_dchk 12 false code 1557 am_dl = true := am_ckl
theorem lw_d1356 : decode code 1356 = .ok (.invokestatic 206, 3) := by decide +kernel
theorem lw_d1555 : decode code 1555 = .ok (.iconst 1, 1) := by decide +kernel
theorem lw_d1556 : decode code 1556 = .ok (.ireturn, 1) := by decide +kernel
def R_law : String := "StoneSecretsLaw"
def lw_P (b : Addr) (xs : List Int32) (args : Array Value) (s : State) : Prop := args = #[.ref b] ∧ s.IntsAt b xs ∧ xs.length ≤ 3584 ∧ (Jvm.Cond.and given_1 narrow_1).before args s = true
def lw_Q (_ : Array Value) (s : State) (o : Outcome) (t : State) : Prop := o = .returned (some (.int 1)) ∧ Framed s o t [] 601024 7293034
def lw_Z (below : List Frame) (a : Array Value) (s : State) : State → Prop := fun t => ∃ o, t.status = .running ∧ Ended t below o ∧ lw_Q a s o t
/-- the law's own end, with 1 on the stack, nothing written that was there before, its room as the claim has it -/
theorem lw_ret {p : Program} {l : Launch} {e : Env} {s : State} {m : MethodId} {below : List Frame} {meth : Method} {c : Code} {b : Nat} (hx : p.tables.exec = Jvm.exec) (hb : c.code = code) (hr : meth.sig.returnType = ret) (hlocks : meth.locks = false) {pc : Nat} {H : Heap} {ls : Array Slot} (hdg : decode code pc = .ok (.ireturn, 1)) : W p l e room_1 s m #[Value.ref b] below meth c H [] 601024 7293034 (lw_Z below #[Value.ref b] s) (F0 m pc ls [.int 1]) := by
  intro T hT X
  obtain ⟨fs, hret, hrun, hended, hW, hframe⟩ := X.leave (v := some (.int 1)) (hlocks := hlocks) (fun h => by rw [hr] at h; cases h)
  have hmeth' : T.vm.method? m = some meth := X.method'
  refine ⟨T.setFrames fs, ?_, .returned (some (.int 1)), hrun, hended, rfl, ⟨_, rfl⟩, hW, hframe⟩
  jvm_step X.here [X.here.top, hx, hb, hdg, hmeth', hr, ret, narrow_b1]
  (try refine ⟨rfl, ?_⟩); (try refine ⟨rfl, ?_⟩)
  first | (intro acts; rw [hret _ acts rfl rfl rfl]) | rw [hret _ _ rfl rfl rfl]
  exact Steps.refl _
section LWL
variable {p : Program} {l : Launch} {e : Env} {s : State} {m : MethodId} {args : Array Value} {below : List Frame} {meth : Method} {c : Code} {Q : State → Prop} {G : am_G} {c0 : Nat × Nat}
theorem lw_rg (C : am_ctx p s m args meth c G code 7 12 false) (hlt : l.stackTraces = false) (hZ : rs_H G s s.heap) (hf : c0.1 + 1 ≤ 601024 ∧ c0.2 + 6 ≤ 7293034) (n : Nat) (μ : am_M2) (ν : am_N2) (la ta wa wh : Int32) (L : am_L)
    (K : am_gd p l e room_1 s m args below meth c Q G 7 0 0 (c0.1 + 1, c0.2 + 6) 1359 L [.int (rsK (rsQ la ta wa wh))] (am_hp n μ (rlN ν (rsQ la ta wa wh)))) :
    am_gd p l e room_1 s m args below meth c Q G 7 0 0 c0 1356 L [.ref 151, .int wh, .int wa, .int ta, .int la, .ref 2] (am_hp n μ ν) := by
  obtain ⟨hx, hb, hml, hown, hts, hK, hok, hbase, -⟩ := C
  intro H locs ls hr hl hS
  have hZ1 : rs_H G s H := rs_H_kept hS.2.1 hZ
  have hsize : ls.size = 7 := hl.2.1
  have hroom : 2 * (F0 m 1356 ls (([.ref 151, .int wh, .int wa, .int ta, .int la, .ref 2] : List Value).map (am_rv G.1))).monitorRoom + (([] : List Value).map fun v => v.category).sum ≤ 8 := Nat.le_of_ble_eq_true rfl
  have cw : vx_CSW room_1 s args "StoneSecretsLaw" 206 rl_y method_3_code 7 (some .int) [(0, 14, 17, 13)] rl_ws rl_rm 1 6 6 := ⟨⟨rfl, rfl, Nat.le_of_ble_eq_true rfl, Nat.le_of_ble_eq_true rfl, pay_in hts (fun w hw => am_gwg rl_w1 hw), List.mem_cons_self⟩, hts _ rl_w1, hts _ rl_w3, ⟨by decide, by decide⟩, fun sig h => by
    have h2 : (parseMethodDescriptor rl_y.desc).map (fun d => d.parameters.length) = some 6 := by decide +kernel
    rw [h] at h2
    exact (Option.some.inj h2).symm, hts _ rl_w4, hts _ rl_w2⟩
  have hrun := vx_runSW (H := H) (locs := locs) (cells := c0.1) (slots := c0.2) (p := p) (e := e) (below := below) (meth := meth) (own := "StoneSecretsLaw") (As := (rl_vs la ta wa wh).map (am_rv G.1)) (rest := []) (g := F0 m 1356 ls (([.ref 151, .int wh, .int wa, .int ta, .int la, .ref 2] : List Value).map (am_rv G.1))) ⟨hx, hb, hml, hown, hts⟩ (rl_met (l := l) hlt hok la ta wa wh n μ ν) cw ⟨rs_blind, rs_pre (vs := rl_vs la ta wa wh) hK hr hZ1⟩ rfl rfl hsize rfl hroom lw_d1356 hf
  refine am_after hrun hS fun H1 locs1 hr1 hS1 => ?_
  exact K H1 locs1 ls hr1 hl hS1
theorem lw_loop {b n : Nat} {xs : Nat → Int32} (C : am_ctx p s m #[Value.ref b] meth c G code 7 12 false) (hret : meth.sig.returnType = ret) (hlocks : meth.locks = false) (hlt : l.stackTraces = false) (hZ : rs_H G s s.heap) (hb0 : am_base G = s.heap.size) (hn : n ≤ 3584) :
    ∀ (r t : Nat) (l5 l6 : Option Value) (μ : am_M2) (ν : am_N2), t + r = n / 7 → REL t xs μ ν → am_gd p l e room_1 s m #[Value.ref b] below meth c (lw_Z below #[Value.ref b] s) G 7 0 0 (150 + t, 13546 + 6 * t) 23 [some (.ref 0), some (.ref 2), some (.ref 133), some (.ref 151), some (.int (nI (7 * t))), l5, l6] [] (am_hp n μ ν) := by
  have hR : am_fit room_1 46 := ⟨Nat.le_of_ble_eq_true rfl, Nat.le_of_ble_eq_true rfl⟩
  have hst : ∀ (c0 : Nat × Nat) (pc : Nat) (E : am_I) (L : am_L) (st : List Value) (h : am_H) (pc' : Nat) (L' : am_L) (st' : List Value) (h' : am_H), am_gl pc = some E → am_step (am_run 46) (some .boolean) pc E L st h = some (.inl (pc', L', st', h')) → c0.1 + (h'.1 - 0) ≤ room_1.cells ∧ c0.2 + (h'.2.1 - 0) ≤ room_1.slots → 0 ≤ h.1 ∧ 0 ≤ h.2.1 → am_gd p l e room_1 s m #[Value.ref b] below meth c (lw_Z below #[Value.ref b] s) G 7 0 0 c0 pc' L' st' h' → am_gd p l e room_1 s m #[Value.ref b] below meth c (lw_Z below #[Value.ref b] s) G 7 0 0 c0 pc L st h := fun c0 pc E L st h pc' L' st' h' hE hs hf h0 K => am_snd C (am_sound l 46) hR (am_cut_chk lw_ckl hE) hs hf h0 K
  intro r
  induction r with
  | zero =>
    intro t l5 l6 μ ν hr hRel
    have ht : 7 * t ≤ n := by omega
    refine am_v_gd (hst _) ⟨Nat.zero_le _, Nat.zero_le _⟩ (lw_en 0 n t l5 l6 hn ht (by omega) (fun a b c e => a = 1555 ∧ b.length = 7 ∧ c = [] ∧ e = am_hp n μ ν) (fun L hL => ⟨rfl, hL, rfl, rfl⟩)) (fun a b' q e' hp => ?_)
    obtain ⟨rfl, hL, rfl, rfl⟩ := hp
    refine ⟨⟨by show 150 + t + 0 ≤ 601024; omega, by show 13546 + 6 * t + 0 ≤ 7293034; omega⟩, ?_⟩
    intro H locs ls hr hl hS
    obtain ⟨hx, hb, -⟩ := C
    refine lv_iconst (v := 1) hx hb lw_d1555 (by decide) ?_
    refine va_forget (fun q hq => by have := hS.2.2 q hq; rw [← hb0]; exact this) ?_
    refine W.widen (k := 601024) (n := 7293034) (by show 150 + t + 0 ≤ 601024; omega) (by show 13546 + 6 * t + 0 ≤ 7293034; omega) ?_
    exact lw_ret hx hb hret hlocks lw_d1556
  | succ r ih =>
    intro t l5 l6 μ ν hr hRel
    have hi : 7 * t + 7 ≤ n := by omega
    have hQ : ∀ l5 l6 a b' q e', lawQz n t t xs l5 l6 a b' q e' → am_gd p l e room_1 s m #[Value.ref b] below meth c (lw_Z below #[Value.ref b] s) G 7 0 0 (150 + (t + 1), 13546 + 6 * (t + 1)) a b' q e' := by
      intro l5 l6 a b' q e' hp
      obtain ⟨rfl, rfl, rfl, μ', ν', rfl, hR'⟩ := hp
      refine am_v_gd (hst _) ⟨Nat.zero_le _, Nat.zero_le _⟩ (lw_inc 0 n t l5 l6) (fun a b'' q e' hp => ?_)
      obtain ⟨rfl, rfl, rfl, rfl⟩ := hp
      exact ⟨⟨by show 150 + (t + 1) + 0 ≤ 601024; omega, by show 13546 + 6 * (t + 1) + 0 ≤ 7293034; omega⟩, ih (t + 1) l5 l6 μ' ν' (by omega) hR'⟩
    refine am_v_gd (hst _) ⟨Nat.zero_le _, Nat.zero_le _⟩ (lw_step 0 n t t l5 l6 hn hi (by omega) hRel) (fun a b' q e' hp => ?_)
    rcases hp with hp | hp
    · have hg := hQ _ _ _ _ _ _ hp
      obtain ⟨rfl, rfl, rfl, μ', ν', rfl, hR'⟩ := hp
      refine ⟨⟨by show 150 + t + 0 ≤ 601024; omega, by show 13546 + 6 * t + 0 ≤ 7293034; omega⟩, ?_⟩
      intro H locs ls hr hl hS
      exact W.widen (by show 150 + t + 0 ≤ 150 + (t + 1) + 0; omega) (by show 13546 + 6 * t + 0 ≤ 13546 + 6 * (t + 1) + 0; omega) (hg H locs ls hr hl hS)
    · obtain ⟨rfl, rfl, rfl, rfl⟩ := hp
      refine ⟨⟨by show 150 + t + 0 ≤ 601024; omega, by show 13546 + 6 * t + 0 ≤ 7293034; omega⟩, ?_⟩
      refine lw_rg C hlt hZ ⟨by show 150 + t + 1 ≤ 601024; omega, by show 13546 + 6 * t + 6 ≤ 7293034; omega⟩ n μ ν _ _ _ _ _ ?_
      refine am_v_gd (hst _) ⟨Nat.zero_le _, Nat.zero_le _⟩ (lw_c44b 0 n t t l5 l6 hn hi (by omega) hRel) (fun a b' q e' hp => ?_)
      have hg := hQ _ _ _ _ _ _ hp
      obtain ⟨rfl, rfl, rfl, μ', ν', rfl, hR'⟩ := hp
      exact ⟨⟨by show 150 + t + 1 + 0 ≤ 601024; omega, by show 13546 + 6 * t + 6 + 0 ≤ 7293034; omega⟩, hg⟩
end LWL