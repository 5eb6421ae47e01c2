theorem nT_y {V : sVal} {t sp : Nat} {q : Nat → Option Nat} {a j p : Nat} (h : q j = some p) : nT V t sp q a (j + 1) = if tnS V t sp q a j < nT V t sp q a j then tnS V t sp q a j else nT V t sp q a j := by
  have e : nT V t sp q a (j + 1) = if (q j).isSome = true ∧ tnS V t sp q a j < nT V t sp q a j then tnS V t sp q a j else nT V t sp q a j := rfl
  rw [e, h]; simp
theorem nT_n {V : sVal} {t sp : Nat} {q : Nat → Option Nat} {a j : Nat} (h : q j = none) : nT V t sp q a (j + 1) = nT V t sp q a j := by
  have e : nT V t sp q a (j + 1) = if (q j).isSome = true ∧ tnS V t sp q a j < nT V t sp q a j then tnS V t sp q a j else nT V t sp q a j := rfl
  rw [e, h]; simp
theorem tnS_le {V : sVal} {t sp : Nat} (hsp : sp ≤ 60) (q : Nat → Option Nat) (a s : Nat) : tnS V t sp q a s ≤ 61 := soo_le hsp (by omega)
theorem nI_min {a b : Nat} (ha : a < 2 ^ 31) (hb : b < 2 ^ 31) : (if nI b < nI a then nI b else nI a) = nI (if b < a then b else a) := by
  by_cases h : b < a
  · rw [if_pos ((nI_ltI hb ha).mpr h), if_pos h]
  · rw [if_neg (fun z => h ((nI_ltI hb ha).mp z)), if_neg h]
theorem s_ntL (d : Nat) (t sp b a n : Nat) {V : sVal} {q : Nat → Option Nat} {μ : am_M2} (ν : am_N2) (hV : xVal μ V) (hO : vOk V) (hsp : sp ≤ 60) (ha : a ≤ sp) (hT : xTb V t sp b μ) (hq : ∀ s, s < 6 → μ 128 s = sn_spot (q s)) (h8 : sPl8 q) (hst : ∀ s, s < vN V → (q s).isSome = true → b.testBit s = true) : ∀ (m j : Nat) (g : Nat → Int32) (o5 : Option Value), j + m = vN V → (∀ s, s < j → (q s).isSome = true → g s = nI (tnS V t sp q a s)) → am_w (d + 1) (Option.some FieldType.int) am_g107 14 [some (.ref 125), some (.int (nI a)), some (.int (nI (sTk q))), some (.int (nI (nT V t sp q a j))), some (.int (nI j)), o5] [] (am_hp n (am_rw μ 127 g) ν) (fun y => ∃ g, y = (some (.int (nI (nT V t sp q a (vN V)))), am_hp n (am_rw μ 127 g) ν) ∧ ∀ s, s < vN V → (q s).isSome = true → g s = nI (tnS V t sp q a s)) := by
  intro m
  induction m with
  | zero =>
    intro j g o5 hj hinv
    have h6 := hO.1.1
    refine am_q_iload rfl rfl ?_
    refine am_q_aload_n rfl rfl ?_
    refine am_q_gr rfl rfl rfl ?_
    refine am_q_gi rfl rfl rfl hV.1.1 ?_
    refine am_q_igeN rfl (by omega) (by omega) (fun c_23 => ?_) (fun c_23 => absurd c_23 (by omega))
    refine am_q_iload_n rfl rfl ?_
    refine am_q_ireturn rfl rfl rfl ?_
    exact ⟨g, by rw [show j = vN V by omega], fun s hs hi => hinv s (by omega) hi⟩
  | succ m ih =>
    intro j g o5 hj hinv
    have h6 := hO.1.1
    have hnt := (nT_le (V := V) (t := t) (sp := sp) (q := q) (a := a) j).1
    have htn := tnS_le (V := V) (t := t) hsp q a j
    refine am_q_iload rfl rfl ?_
    refine am_q_aload_n rfl rfl ?_
    refine am_q_gr rfl rfl rfl ?_
    refine am_q_gi rfl rfl rfl hV.1.1 ?_
    refine am_q_igeN rfl (by omega) (by omega) (fun c_23 => absurd c_23 (by omega)) (fun c_23 => ?_)
    refine am_q_aload_n rfl rfl ?_
    refine am_q_gr rfl rfl rfl ?_
    refine am_q_iload rfl rfl ?_
    refine am_q_iald rfl rfl (by first | exact am_ix_nI (by omega) (by omega) | rfl) (hq _ (by omega)) ?_
    refine am_q_if_eq rfl (fun c_33 => ?_) (fun c_33 => ?_)
    · have hz := sn_spot_0 (h8 j (by omega)) c_33
      have i1 : ∀ s, s < j + 1 → (q s).isSome = true → g s = nI (tnS V t sp q a s) := fun s hs hi => by (by_cases z : s = j; rw [z, hz] at hi; cases hi; exact hinv s (by omega) hi)
      refine am_q_iinc [some _, some _, some _, some _, some _, _] rfl (c := nI 1) rfl rfl (Nat.le_of_ble_eq_true rfl) (nI_add _ _) rfl ?_
      refine am_q_goto rfl ?_
      first | exact ih (j + 1) _ _ (by omega) i1 | (have e := fun o => ih (j + 1) g o (by omega) i1; simp only [nT_n hz] at e; exact e _)
    · obtain ⟨p, hp⟩ := sn_spot_n0 c_33
      have hb := hst j (by omega) (by rw [hp]; rfl)
      have hnb := oNb_le q (q j)
      have i1 : ∀ s, s < j + 1 → (q s).isSome = true → upd g j (nI (tnS V t sp q a j)) s = nI (tnS V t sp q a s) := fun s hs hi => by (by_cases z : s = j; rw [z, pk_us]; rw [pk_un z]; exact hinv s (by omega) hi)
      refine am_q_aload_n rfl rfl ?_
      refine am_q_gr rfl rfl rfl ?_
      refine am_q_iload rfl rfl ?_
      refine am_q_iald rfl rfl (by first | exact am_ix_nI (by omega) (by omega) | rfl) (hq _ (by omega)) ?_
      refine am_q_call rfl rfl (s_besideSpot _ _ _) rfl ?_
      rw [sn_bsq (h8 j (by omega))]
      refine am_q_iload_n rfl rfl ?_
      refine am_q_iand rfl (sn_and _ _) ?_
      refine am_q_call rfl rfl (s_bitCount _ _ (by have := sTk_and h8 (sBs (q j)); exact Nat.lt_trans this (by decide)) _) rfl ?_
      rw [sn_nb (V := V) h8 _ (h8 j (by omega))]
      refine am_q_istore [some _, some _, some _, some _, some _, some _] rfl (Nat.le_of_ble_eq_true rfl) rfl ?_
      refine am_q_aload_n rfl rfl ?_
      refine am_q_gr rfl rfl rfl ?_
      refine am_q_iload rfl rfl ?_
      refine am_q_aload_n rfl rfl ?_
      refine am_q_gr rfl rfl rfl ?_
      refine am_q_iload_n rfl rfl ?_
      refine am_q_iload rfl rfl ?_
      refine am_q_iload rfl rfl ?_
      refine am_q_call rfl rfl (s_cellOf _ _ _ _ _) rfl ?_
      refine am_q_iald rfl rfl (am_ix_nI (show a * 18 + j * 3 + oNb q (q j) < 1098 by omega) (by decide)) (hT.2 a j (oNb q (q j)) ha (by omega) hb hnb) ?_
      refine am_q_iast rfl rfl (by first | exact am_ix_nI (by omega) (by omega) | rfl) rfl ?_
      rw [am_rw_up]
      refine am_q_iload_n rfl rfl ?_
      refine am_q_aload_n rfl rfl ?_
      refine am_q_gr rfl rfl rfl ?_
      refine am_q_iload rfl rfl ?_
      refine am_q_iald rfl rfl (by first | exact am_ix_nI (by omega) (by omega) | rfl) (show am_rw μ 127 (upd g j (nI (soo V t sp j (oNb q (q j)) (sp - a)))) 127 j = nI (tnS V t sp q a j) by unfold am_rw; rw [if_pos rfl, pk_us]; rfl) ?_
      refine am_q_call rfl rfl (s_min _ _ _ _) rfl ?_
      rw [nI_min (by omega) (by omega), ← nT_y hp]
      refine am_q_istore_n [some _, some _, some _, some _, some _, some _] rfl (Nat.le_of_ble_eq_true rfl) rfl ?_
      refine am_q_iinc [some _, some _, some _, some _, some _, some _] rfl (c := nI 1) rfl rfl (Nat.le_of_ble_eq_true rfl) (nI_add _ _) rfl ?_
      refine am_q_goto rfl ?_
      first | exact ih (j + 1) _ _ (by omega) i1 | (have e := fun o => ih (j + 1) g o (by omega) i1; simp only [nT_n hz] at e; exact e _)

/-- StoneSecrets$Future.nextTurn(I)I -/
theorem s_nextTurn (d : Nat) (t sp b a n : Nat) {V : sVal} {q : Nat → Option Nat} {μ : am_M2} (ν : am_N2) (hV : xVal μ V) (hO : vOk V) (hsp : sp ≤ 60) (ha : a ≤ sp) (hT : xTb V t sp b μ) (hq : ∀ s, s < 6 → μ 128 s = sn_spot (q s)) (h8 : sPl8 q) (hst : ∀ s, s < vN V → (q s).isSome = true → b.testBit s = true) : ∃ (g : Nat → Int32), am_run (d + 2) 107 [.ref 125, .int (nI a)] (am_hp n μ ν) = some (some (.int (nI (nT V t sp q a (vN V)))), am_hp n (am_rw μ 127 g) ν) ∧ ∀ s, s < vN V → (q s).isSome = true → g s = nI (tnS V t sp q a s) := by
  have key : ∃ r, am_run (d + 2) 107 [.ref 125, .int (nI a)] (am_hp n μ ν) = some r ∧ ∃ (g : Nat → Int32), r = (some (.int (nI (nT V t sp q a (vN V)))), am_hp n (am_rw μ 127 g) ν) ∧ ∀ s, s < vN V → (q s).isSome = true → g s = nI (tnS V t sp q a s) := am_run_wE (k := 107) (d := d + 1) rfl rfl (Nat.le_of_ble_eq_true rfl) [some (.ref 125), some (.int (nI a)), none, none, none, none] rfl (by
    refine am_q_aload_n rfl rfl ?_
    refine am_q_gr rfl rfl rfl ?_
    refine am_q_call rfl rfl (s_taken _ n 128 (fun s => sn_sp (q s)) _ ν _ rfl (fun k hk => (hq k hk).trans (sn_spot_eq _))) rfl ?_
    refine am_q_istore_n [some _, some _, some _, none, none, none] rfl (Nat.le_of_ble_eq_true rfl) rfl ?_
    refine am_q_bipush (v := nI 61) rfl rfl ?_
    refine am_q_istore_n [some _, some _, some _, some _, none, none] rfl (Nat.le_of_ble_eq_true rfl) rfl ?_
    refine am_q_iconst (v := nI 0) rfl rfl ?_
    refine am_q_istore [some _, some _, some _, some _, some _, none] rfl (Nat.le_of_ble_eq_true rfl) rfl ?_
    have e := s_ntL d t sp b a n ν hV hO hsp ha hT hq h8 hst (vN V) 0 (μ 127) none (by omega) (fun s hs => absurd hs (Nat.not_lt_zero s))
    rw [am_rw_self] at e
    exact e)
  obtain ⟨r, h1, g, h2, h3⟩ := key
  exact ⟨g, by rw [h1, h2], h3⟩

def xF (μ : am_M2) (q : Nat → Option Nat) (f : Nat → Nat) : Prop := (∀ s, s < 6 → μ 128 s = sn_spot (q s)) ∧ ∀ s, s < 6 → μ 129 s = nI (f s)
theorem rw128 (μ : am_M2) (u v : Nat → Int32) (k : Nat) (x : Int32) : am_up (am_rw (am_rw μ 128 u) 129 v) 128 k x = am_rw (am_rw μ 128 (upd u k x)) 129 v := by
  funext i j; unfold am_up am_rw upd
  by_cases h1 : i = 128
  · subst h1; simp
  · simp [h1]
theorem rw129 (μ : am_M2) (u v : Nat → Int32) (k : Nat) (x : Int32) : am_up (am_rw (am_rw μ 128 u) 129 v) 129 k x = am_rw (am_rw μ 128 u) 129 (upd v k x) := by rw [am_rw_up]
def dqA (V : sVal) (q : Nat → Option Nat) (tn : Nat → Nat) (T j s : Nat) : Option Nat := if s < j ∧ (q s).isSome = true ∧ tn s = T then none else q s
def dfA (V : sVal) (q : Nat → Option Nat) (f tn : Nat → Nat) (T j s : Nat) : Nat := if s < j ∧ (q s).isSome = true ∧ tn s = T then T + 1 else f s
theorem dAk {α : Type} {q : Nat → Option Nat} {tn : Nat → Nat} {T j s : Nat} {x y : α} (hn : ¬ ((q j).isSome = true ∧ tn j = T)) : (if s < j ∧ (q s).isSome = true ∧ tn s = T then x else y) = (if s < j + 1 ∧ (q s).isSome = true ∧ tn s = T then x else y) := by
  by_cases z : s = j
  · subst z; rw [if_neg (fun w => absurd w.1 (Nat.lt_irrefl s)), if_neg (fun w => hn w.2)]
  · by_cases w : s < j
    · simp [w, show s < j + 1 by omega]
    · simp [w, show ¬ s < j + 1 by omega]
theorem dA2 {V : sVal} {q : Nat → Option Nat} {f tn : Nat → Nat} {T j : Nat} {u v : Nat → Int32} (hs : (q j).isSome = true) (ht : tn j = T) (h : (∀ s, s < 6 → u s = sn_spot (dqA V q tn T j s)) ∧ (∀ s, s < 6 → v s = nI (dfA V q f tn T j s))) : (∀ s, s < 6 → upd u j (nI 0) s = sn_spot (dqA V q tn T (j + 1) s)) ∧ (∀ s, s < 6 → upd v j (nI (T + 1)) s = nI (dfA V q f tn T (j + 1) s)) := by
  refine ⟨fun s h6 => ?_, fun s h6 => ?_⟩
  · by_cases z : s = j
    · subst z; rw [pk_us, dqA, if_pos ⟨by omega, hs, ht⟩]; rfl
    · rw [pk_un z, h.1 s h6, dqA, dqA]
      by_cases w : s < j
      · simp [w, show s < j + 1 by omega]
      · simp [w, show ¬ s < j + 1 by omega]
  · by_cases z : s = j
    · subst z; rw [pk_us, dfA, if_pos ⟨by omega, hs, ht⟩]
    · rw [pk_un z, h.2 s h6, dfA, dfA]
      by_cases w : s < j
      · simp [w, show s < j + 1 by omega]
      · simp [w, show ¬ s < j + 1 by omega]
theorem s_dropL (d : Nat) (T n : Nat) {V : sVal} {q : Nat → Option Nat} {f tn : Nat → Nat} {μ : am_M2} (ν : am_N2) (hV : xVal μ V) (hO : vOk V) (hTT : T < 61) (htn : ∀ s, tn s ≤ 61) (h8 : sPl8 q) (hg : ∀ s, s < vN V → (q s).isSome = true → μ 127 s = nI (tn s)) : ∀ (m j : Nat) (u : Nat → Int32) (v : Nat → Int32), j + m = vN V → (∀ s, s < 6 → u s = sn_spot (dqA V q tn T j s)) ∧ (∀ s, s < 6 → v s = nI (dfA V q f tn T j s)) → am_w (d + 0) (Option.none : Option FieldType) am_g108 2 [some (.ref 125), some (.int (nI T)), some (.int (nI j))] [] (am_hp n (am_rw (am_rw μ 128 u) 129 v) ν) (fun y => ∃ u v, y = (none, am_hp n (am_rw (am_rw μ 128 u) 129 v) ν) ∧ (∀ s, s < 6 → u s = sn_spot (dqA V q tn T (vN V) s)) ∧ (∀ s, s < 6 → v s = nI (dfA V q f tn T (vN V) s))) := by
  intro m
  induction m with
  | zero =>
    intro j u v hj hinv
    have h6 := hO.1.1
    refine am_q_iload_n rfl rfl ?_
    refine am_q_aload_n rfl rfl ?_
    refine am_q_gr rfl rfl rfl ?_
    refine am_q_gi rfl rfl rfl hV.1.1 ?_
    refine am_q_igeN rfl (by omega) (by omega) (fun c_10 => ?_) (fun c_10 => absurd c_10 (by omega))
    refine am_q_return rfl rfl ?_
    exact ⟨u, v, rfl, fun s hs => by rw [hinv.1 s hs, show j = vN V by omega], fun s hs => by rw [hinv.2 s hs, show j = vN V by omega]⟩
  | succ m ih =>
    intro j u v hj hinv
    have h6 := hO.1.1
    have hjq : dqA V q tn T j j = q j := if_neg (fun w => absurd w.1 (Nat.lt_irrefl j))
    have htj := htn j
    refine am_q_iload_n rfl rfl ?_
    refine am_q_aload_n rfl rfl ?_
    refine am_q_gr rfl rfl rfl ?_
    refine am_q_gi rfl rfl rfl hV.1.1 ?_
    refine am_q_igeN rfl (by omega) (by omega) (fun c_10 => absurd c_10 (by omega)) (fun c_10 => ?_)
    refine am_q_aload_n rfl rfl ?_
    refine am_q_gr rfl rfl rfl ?_
    refine am_q_iload_n rfl rfl ?_
    refine am_q_iald rfl rfl (by first | exact am_ix_nI (by omega) (by omega) | rfl) ((hinv.1 j (by omega)).trans (by rw [hjq])) ?_
    refine am_q_if_eq rfl (fun c_19 => ?_) (fun c_19 => ?_)
    · have hz := sn_spot_0 (h8 j (by omega)) c_19
      have hnn : ¬ ((q j).isSome = true ∧ tn j = T) := fun w => by rw [hz] at w; cases w.1
      have i1 : (∀ s, s < 6 → u s = sn_spot (dqA V q tn T (j + 1) s)) ∧ (∀ s, s < 6 → v s = nI (dfA V q f tn T (j + 1) s)) := ⟨fun s hs => by rw [hinv.1 s hs]; congr 1; unfold dqA; exact dAk hnn, fun s hs => by rw [hinv.2 s hs]; congr 1; unfold dfA; exact dAk hnn⟩
      refine am_q_iinc [some _, some _, some _] rfl (c := nI 1) rfl rfl (Nat.le_of_ble_eq_true rfl) (nI_add _ _) rfl ?_
      refine am_q_goto rfl ?_
      exact ih (j + 1) _ _ (by omega) i1
    · obtain ⟨p, hp⟩ := sn_spot_n0 c_19
      have hsm : (q j).isSome = true := by rw [hp]; rfl
      refine am_q_aload_n rfl rfl ?_
      refine am_q_gr rfl rfl rfl ?_
      refine am_q_iload_n rfl rfl ?_
      refine am_q_iald rfl rfl (by first | exact am_ix_nI (by omega) (by omega) | rfl) (hg j (by omega) hsm) ?_
      refine am_q_iload_n rfl rfl ?_
      refine am_q_ineN rfl (by omega) (by omega) (fun c_29 => ?_) (fun c_29 => ?_)
      · have hnn : ¬ ((q j).isSome = true ∧ tn j = T) := fun w => c_29 w.2
        have i1 : (∀ s, s < 6 → u s = sn_spot (dqA V q tn T (j + 1) s)) ∧ (∀ s, s < 6 → v s = nI (dfA V q f tn T (j + 1) s)) := ⟨fun s hs => by rw [hinv.1 s hs]; congr 1; unfold dqA; exact dAk hnn, fun s hs => by rw [hinv.2 s hs]; congr 1; unfold dfA; exact dAk hnn⟩
        refine am_q_iinc [some _, some _, some _] rfl (c := nI 1) rfl rfl (Nat.le_of_ble_eq_true rfl) (nI_add _ _) rfl ?_
        refine am_q_goto rfl ?_
        exact ih (j + 1) _ _ (by omega) i1
      · have i1 : (∀ s, s < 6 → upd u j (nI 0) s = sn_spot (dqA V q tn T (j + 1) s)) ∧ (∀ s, s < 6 → upd v j (nI (T + 1)) s = nI (dfA V q f tn T (j + 1) s)) := dA2 hsm c_29 hinv
        refine am_q_aload_n rfl rfl ?_
        refine am_q_gr rfl rfl rfl ?_
        refine am_q_iload_n rfl rfl ?_
        refine am_q_iconst (v := nI 0) rfl rfl ?_
        refine am_q_iast rfl rfl (by first | exact am_ix_nI (by omega) (by omega) | rfl) rfl ?_
        rw [rw128]
        refine am_q_aload_n rfl rfl ?_
        refine am_q_gr rfl rfl rfl ?_
        refine am_q_iload_n rfl rfl ?_
        refine am_q_iload_n rfl rfl ?_
        refine am_q_iconst (v := nI 1) rfl rfl ?_
        refine am_q_iadd rfl (nI_add _ _) ?_
        refine am_q_iast rfl rfl (by first | exact am_ix_nI (by omega) (by omega) | rfl) rfl ?_
        rw [rw129]
        refine am_q_iinc [some _, some _, some _] rfl (c := nI 1) rfl rfl (Nat.le_of_ble_eq_true rfl) (nI_add _ _) rfl ?_
        refine am_q_goto rfl ?_
        exact ih (j + 1) _ _ (by omega) i1

/-- StoneSecrets$Future.dropAt(I)V -/
theorem s_dropAt (d : Nat) (T n : Nat) {V : sVal} {q : Nat → Option Nat} {f tn : Nat → Nat} {μ : am_M2} (ν : am_N2) (hV : xVal μ V) (hO : vOk V) (hTT : T < 61) (htn : ∀ s, tn s ≤ 61) (h8 : sPl8 q) (hg : ∀ s, s < vN V → (q s).isSome = true → μ 127 s = nI (tn s)) (hF : xF μ q f) : ∃ (u v : Nat → Int32), am_run (d + 1) 108 [.ref 125, .int (nI T)] (am_hp n μ ν) = some (none, am_hp n (am_rw (am_rw μ 128 u) 129 v) ν) ∧ (∀ s, s < 6 → u s = sn_spot (dqA V q tn T (vN V) s)) ∧ (∀ s, s < 6 → v s = nI (dfA V q f tn T (vN V) s)) := by
  have key : ∃ r, am_run (d + 1) 108 [.ref 125, .int (nI T)] (am_hp n μ ν) = some r ∧ ∃ (u v : Nat → Int32), r = (none, am_hp n (am_rw (am_rw μ 128 u) 129 v) ν) ∧ (∀ s, s < 6 → u s = sn_spot (dqA V q tn T (vN V) s)) ∧ (∀ s, s < 6 → v s = nI (dfA V q f tn T (vN V) s)) := am_run_wE (k := 108) (d := d + 0) rfl rfl (Nat.le_of_ble_eq_true rfl) [some (.ref 125), some (.int (nI T)), none] rfl (by
    refine am_q_iconst (v := nI 0) rfl rfl ?_
    refine am_q_istore_n [some _, some _, some _] rfl (Nat.le_of_ble_eq_true rfl) rfl ?_
    have e := s_dropL d T n ν hV hO hTT htn h8 hg (f := f) (vN V) 0 (μ 128) (μ 129) (by omega) ⟨fun s hs => by rw [dqA, if_neg (by omega)]; exact hF.1 s hs, fun s hs => by rw [dfA, if_neg (by omega)]; exact hF.2 s hs⟩
    rw [show am_rw (am_rw μ 128 (μ 128)) 129 (μ 129) = μ by rw [am_rw_self, am_rw_self]] at e
    exact e)
  obtain ⟨r, h1, u, v, h2, h3⟩ := key
  exact ⟨u, v, by rw [h1, h2], h3⟩
