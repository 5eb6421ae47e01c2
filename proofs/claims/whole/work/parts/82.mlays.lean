def loB (T : sWall) (x : Nat) : Bool := decide (T.1 x = 1) || decide (T.1 x = 3)
def mvF (T : sWall) (s r : Nat) : List Nat := (List.range' s r).filter (loB T)
theorem mvF_0 (T : sWall) (s : Nat) : mvF T s 0 = [] := rfl
theorem mvF_y {T : sWall} {s r : Nat} (h : loB T s = true) : mvF T s (r + 1) = s :: mvF T (s + 1) r := by unfold mvF; rw [List.range'_succ, List.filter_cons, if_pos h]
theorem mvF_n {T : sWall} {s r : Nat} (h : loB T s = false) : mvF T s (r + 1) = mvF T (s + 1) r := by unfold mvF; rw [List.range'_succ, List.filter_cons, if_neg (by rw [h]; exact Bool.false_ne_true)]
theorem mvF_cong {T T' : sWall} {s r : Nat} (h : ∀ x, s ≤ x → T'.1 x = T.1 x) : mvF T' s r = mvF T s r := by
  unfold mvF
  refine List.filter_congr (fun x hx => ?_)
  unfold loB
  rw [h x (List.mem_range'_1.mp hx).1]
theorem mvF_mem {T : sWall} {s r x : Nat} (h : x ∈ mvF T s r) : s ≤ x ∧ x < s + r := by
  unfold mvF at h
  have := (List.mem_filter.mp h).1
  rw [List.mem_range'_1] at this
  exact this
/-- the WAYS of one SOUL's PLACES so far -/
def ptW (V : sVal) (pl : Nat → Option Nat) (s : Nat) (ms : List Nat) (j : Nat) : List (Nat → Option Nat) := ((List.range j).filter (sMay V pl s)).flatMap (fun p => waysL V ms (fup pl s (some p)))
theorem ptW_y {V : sVal} {pl : Nat → Option Nat} {s : Nat} {ms : List Nat} {j : Nat} (h : sMay V pl s j = true) : ptW V pl s ms (j + 1) = ptW V pl s ms j ++ waysL V ms (fup pl s (some j)) := by
  unfold ptW; rw [List.range_succ, List.filter_append, List.flatMap_append]; simp [h]
theorem ptW_n {V : sVal} {pl : Nat → Option Nat} {s : Nat} {ms : List Nat} {j : Nat} (h : sMay V pl s j = false) : ptW V pl s ms (j + 1) = ptW V pl s ms j := by
  unfold ptW; rw [List.range_succ, List.filter_append, List.flatMap_append]; simp [h]
theorem ptW_le {V : sVal} {pl : Nat → Option Nat} {s : Nat} {ms : List Nat} {j : Nat} : ∀ m, (ptW V pl s ms j).length ≤ (ptW V pl s ms (j + m)).length
  | 0 => Nat.le_refl _
  | m + 1 => by
    have := ptW_le (V := V) (pl := pl) (s := s) (ms := ms) (j := j) m
    rw [show j + (m + 1) = j + m + 1 by omega]
    cases h : sMay V pl s (j + m) with
    | true => rw [ptW_y h, List.length_append]; omega
    | false => rw [ptW_n h]; omega
theorem fl_range {N M : Nat} (hN : N ≤ M) (f g : Nat → Bool) (h : ∀ x, f x = (decide (x < N) && g x)) : (List.range M).filter f = (List.range N).filter g := by
  rw [show M = N + (M - N) by omega, List.range_add, List.filter_append]
  have e1 : (List.range N).filter f = (List.range N).filter g := List.filter_congr (fun x hx => by rw [h x, decide_eq_true (List.mem_range.mp hx)]; rfl)
  have e2 : ((List.range (M - N)).map (fun x => N + x)).filter f = [] := by
    rw [List.filter_eq_nil_iff]
    intro x hx
    rw [List.mem_map] at hx
    obtain ⟨y, -, rfl⟩ := hx
    rw [h, decide_eq_false (by omega)]
    exact Bool.false_ne_true
  rw [e1, e2, List.append_nil]
theorem bl_open {V : sVal} (hO : vOk V) (pl : Nat → Option Nat) (s : Nat) : bl (sOpen V pl s) = (List.range (vP V)).filter (sMay V pl s) :=
  fl_range hO.1.2.1 _ _ (fun x => by unfold sOpen; rw [sBits_tb])
theorem ptW_P {V : sVal} (hO : vOk V) (pl : Nat → Option Nat) (s : Nat) (ms : List Nat) : ptW V pl s ms (vP V) = waysL V (s :: ms) pl := by
  unfold ptW; rw [← bl_open hO]; rfl
theorem mvL_F {V : sVal} (h6 : vN V ≤ 6) (W : sWall) : mvL (sLo V W) 6 = mvF W 0 (vN V) := by
  unfold mvL mvF
  rw [fl_range h6 (fun s => (sLo V W).testBit s) (loB W) (fun x => by unfold sLo; rw [sBits_tb]; rfl), List.range_eq_range']
def lC (V : sVal) (S : sSeen) (t : Nat) (sw : Option Nat) (wn : Int32) (s r : Nat) (T : sWall) (μ : am_M2) (ws : List (Nat → Option Nat)) : Prop := mVal μ V ∧ mWall μ 0 T ∧ sI (vN V) (vP V) T.1 T.2.1 ∧ T.2.2 = t ∧ mSeen μ 0 S ∧ (∀ w, w ∈ ws → pOk V w) ∧ mAcc V S t sw wn μ ws ∧ ws.length + (waysL V (mvF T s r) T.2.1).length ≤ 262144
def lQ (V : sVal) (S : sSeen) (t : Nat) (sw : Option Nat) (wn : Int32) (n : Nat) (ν : am_N2) (s r : Nat) (T : sWall) (μ : am_M2) (ws : List (Nat → Option Nat)) (y : am_R) : Prop := ∃ μ', y = (none, am_hp n μ' ν) ∧ mAcc V S t sw wn μ' (ws ++ waysL V (mvF T s r) T.2.1) ∧ fr μ μ'
theorem m_lay0 (d : Nat) (n : Nat) {V : sVal} {S : sSeen} {t : Nat} {sw : Option Nat} {wn : Int32} (ν : am_N2) (hO : vOk V) (ht : t < 2 ^ 20) (hN : nOk V S) (s r : Nat) (hs : s + r = vN V) (T : sWall) (μ : am_M2) (ws : List (Nat → Option Nat)) (hC : lC V S t sw wn s r T μ ws) (h0 : r = 0) : am_w (d + 7) (Option.none : Option FieldType) am_g259 0 [some (.ref 133), some (.int (nI s)), none, none] [] (am_hp n μ ν) (lQ V S t sw wn n ν s r T μ ws) := by
  have h6 := hO.1.1
  have hP8 := hO.1.2.1
  obtain ⟨hV, hT, hI, rfl, hS, hall, hA, hlen⟩ := hC
  subst h0
  refine am_q_iload_n rfl rfl ?_
  refine am_q_aload_n rfl rfl ?_
  refine am_q_call rfl rfl (m_souls _ _ _ hV) rfl ?_
  refine am_q_ineN rfl (by omega) (by omega) (fun c_5 => absurd c_5 (by omega)) (fun c_5 => ?_)
  refine am_q_aload_n rfl rfl ?_
  obtain ⟨μ2, hc2, hA2, hf2⟩ := m_tells d n ν hV hO hT hI ht hS hN (ws := ws) (by omega) hall hA
  refine am_q_call rfl rfl (hc2) rfl ?_
  refine am_q_return rfl rfl ?_
  exact ⟨_, rfl, hA2, hf2⟩

theorem m_lay1 (d : Nat) (n : Nat) {V : sVal} {S : sSeen} {t : Nat} {sw : Option Nat} {wn : Int32} (ν : am_N2) (hO : vOk V) (ht : t < 2 ^ 20) (hN : nOk V S) (s r : Nat) (hs : s + (r + 1) = vN V) (T : sWall) (μ : am_M2) (ws : List (Nat → Option Nat)) (hC : lC V S t sw wn s (r + 1) T μ ws) (hno : loB T s = false) (hk : lC V S t sw wn (s + 1) r T μ ws → ∃ y, am_run (d + 7) 259 [.ref 133, .int (nI (s + 1))] (am_hp n μ ν) = some y ∧ lQ V S t sw wn n ν (s + 1) r T μ ws y) : am_w (d + 7) (Option.none : Option FieldType) am_g259 0 [some (.ref 133), some (.int (nI s)), none, none] [] (am_hp n μ ν) (lQ V S t sw wn n ν s (r + 1) T μ ws) := by
  have h6 := hO.1.1
  have hC0 := hC
  obtain ⟨hV, hT, hI, rfl, hS, hall, hA, hlen⟩ := hC
  have k4 := (hI s (by omega)).1
  rw [mvF_n hno] at hlen
  obtain ⟨y, hy, μ2, rfl, hA2, hf2⟩ := hk ⟨hV, hT, hI, rfl, hS, hall, hA, hlen⟩
  refine am_q_iload_n rfl rfl ?_
  refine am_q_aload_n rfl rfl ?_
  refine am_q_call rfl rfl (m_souls _ _ _ hV) rfl ?_
  refine am_q_ineN rfl (by omega) (by omega) (fun c_5 => ?_) (fun c_5 => absurd c_5 (by omega))
  refine am_q_aload_n rfl rfl ?_
  refine am_q_iconst (v := nI 0) rfl rfl ?_
  refine am_q_iload_n rfl rfl ?_
  refine am_q_call rfl rfl (m_isNowW _ n ν 0 (by decide) hT s (by omega)) rfl ?_
  refine am_q_istore_n [some _, some _, some _, none] rfl (Nat.le_of_ble_eq_true rfl) rfl ?_
  refine am_q_aload_n rfl rfl ?_
  refine am_q_iconst (v := nI 0) rfl rfl ?_
  refine am_q_iload_n rfl rfl ?_
  refine am_q_call rfl rfl (m_isLoose _ n ν 0 (by decide) hT s (by omega) k4) rfl ?_
  refine am_q_if_neB rfl (fun c_26 => absurd (hno.symm.trans c_26) Bool.false_ne_true) (fun c_26 => ?_)
  refine am_q_aload_n rfl rfl ?_
  refine am_q_iload_n rfl rfl ?_
  refine am_q_iconst (v := nI 1) rfl rfl ?_
  refine am_q_iadd rfl (nI_add _ _) ?_
  refine am_q_call rfl rfl (hy) rfl ?_
  refine am_q_return rfl rfl ?_
  exact ⟨_, rfl, by rw [mvF_n hno]; exact hA2, hf2⟩

theorem lay_I {V : sVal} {T : sWall} {s j : Nat} (hI : sI (vN V) (vP V) T.1 T.2.1) (hs : s < vN V) (hj : j < vP V) (hn : T.2.1 s = none) (hm : sMay V T.2.1 s j = true) : sI (vN V) (vP V) (fup T.1 s 2) (fup T.2.1 s (some j)) := by
  have hfree : ∀ x, x < 6 → T.2.1 x ≠ some j := fun x hx e => by
    have : (sTk T.2.1).testBit j = true := (sTk_tb _ _).mpr ⟨x, hx, e⟩
    unfold sMay at hm; rw [this] at hm; cases hm
  intro x hx
  obtain ⟨h1, h2, h3, h4, h5⟩ := hI x hx
  unfold fup
  by_cases e : x = s
  · rw [if_pos e, if_pos e]
    refine ⟨by omega, ⟨fun _ => rfl, fun _ => rfl⟩, fun p hp => by cases hp; exact hj, fun z => by omega, fun s' hs' hne _ => ?_⟩
    rw [if_neg (by omega)]
    exact fun z => hfree s' hs' z.symm
  · rw [if_neg e, if_neg e]
    refine ⟨h1, h2, h3, h4, fun s' hs' hne hq => ?_⟩
    by_cases e2 : s' = s
    · rw [if_pos e2]; exact hfree x hx
    · rw [if_neg e2]; exact h5 s' hs' hne hq
theorem lay_fr {μ μ1 μ2 : am_M2} {T : sWall} {s j : Nat} (hs : s < 6) (hT : mWall μ1 0 T) (hn : T.2.1 s = none) (h1 : fr μ μ1) (h2 : fr (am_up (am_up μ1 145 (0 + 1 + s) (nI 2)) 145 (0 + 7 + s) (nI j)) μ2) : fr μ (am_up (am_up μ2 145 (0 + 1 + s) (nI (T.1 s))) 145 (0 + 7 + s) (-1)) := fun i k q => by
  by_cases a : i = 145 ∧ k = 0 + 7 + s
  · rw [a.1, a.2, am_up_eq, ← h1 145 _ (by omega), (hT.2 s hs).2, hn]; rfl
  · by_cases b : i = 145 ∧ k = 0 + 1 + s
    · rw [b.1, b.2, am_up_ne (by omega), am_up_eq, ← h1 145 _ (by omega), (hT.2 s hs).1]
    · rw [am_up_ne (by omega), am_up_ne (by omega), h2 i k q, am_up_ne (by omega), am_up_ne (by omega), h1 i k q]
theorem lay_all {V : sVal} (hO : vOk V) {T : sWall} {s r j : Nat} {ws : List (Nat → Option Nat)} (hjP : j ≤ vP V) (hs : s + (r + 1) = vN V) (hp : pOk V T.2.1) (hall : ∀ w, w ∈ ws → pOk V w) : ∀ w, w ∈ ws ++ ptW V T.2.1 s (mvF T (s + 1) r) j → pOk V w := fun w hw => by
  rcases List.mem_append.mp hw with z | z
  · exact hall w z
  · unfold ptW at z
    obtain ⟨p, hpm, hw2⟩ := List.mem_flatMap.mp z
    obtain ⟨hr, hm⟩ := List.mem_filter.mp hpm
    have hpP : p < vP V := by have := List.mem_range.mp hr; omega
    exact waysL_ok _ _ (fun x hx => by have := mvF_mem hx; omega) (pOk_up hp (by omega) (by rw [bl_open hO]; exact List.mem_filter.mpr ⟨List.mem_range.mpr hpP, hm⟩)) w hw2
theorem m_layL (d : Nat) (n : Nat) {V : sVal} {S : sSeen} {t : Nat} {sw : Option Nat} {wn : Int32} (ν : am_N2) (hO : vOk V) (ht : t < 2 ^ 20) (hN : nOk V S) (s r : Nat) (hs : s + (r + 1) = vN V) (T : sWall) (μ : am_M2) (ws : List (Nat → Option Nat)) (hV : mVal μ V) (hT : mWall μ 0 T) (hI : sI (vN V) (vP V) T.1 T.2.1) (htt : T.2.2 = t) (hS : mSeen μ 0 S) (hall : ∀ w, w ∈ ws → pOk V w) (hlen : ws.length + (waysL V (s :: mvF T (s + 1) r) T.2.1).length ≤ 262144) (hno : loB T s = true) (hk : ∀ (T : sWall) (μ : am_M2) (ws : List (Nat → Option Nat)), lC V S t sw wn (s + 1) r T μ ws → ∃ y, am_run (d + 7) 259 [.ref 133, .int (nI (s + 1))] (am_hp n μ ν) = some y ∧ lQ V S t sw wn n ν (s + 1) r T μ ws y) : ∀ (m j : Nat) (μ1 : am_M2), j + m = vP V → fr μ μ1 ∧ mAcc V S t sw wn μ1 (ws ++ ptW V T.2.1 s (mvF T (s + 1) r) j) → am_w (d + 7) (Option.none : Option FieldType) am_g259 39 [some (.ref 133), some (.int (nI s)), some (.int (nI (T.1 s))), some (.int (nI j))] [] (am_hp n μ1 ν) (lQ V S t sw wn n ν s (r + 1) T μ ws) := by
  intro m
  induction m with
  | zero =>
    intro j μ1 hj hinv
    have h6 := hO.1.1
    have hP8 := hO.1.2.1
    have hV1 := mVal_fr hinv.1 hV
    refine am_q_iload_n rfl rfl ?_
    refine am_q_aload_n rfl rfl ?_
    refine am_q_call rfl rfl (m_places _ _ _ hV1) rfl ?_
    refine am_q_igeN rfl (by omega) (by omega) (fun c_44 => ?_) (fun c_44 => absurd c_44 (by omega))
    refine am_q_return rfl rfl ?_
    exact ⟨_, rfl, by rw [mvF_y hno, ← ptW_P hO, ← show j = vP V by omega]; exact hinv.2, hinv.1⟩
  | succ m ih =>
    intro j μ1 hj hinv
    have h6 := hO.1.1
    have hP8 := hO.1.2.1
    have hV1 := mVal_fr hinv.1 hV
    have hT1 := mWall_fr hinv.1 (by decide) hT
    have hS1 : mSeen μ1 0 S := mSeen_c (fun k a b => hinv.1 _ _ (by omega)) hS
    have k1 := hI s (by omega)
    have hpn : T.2.1 s = none := by
      cases hq : T.2.1 s with
      | none => rfl
      | some p => have := k1.2.1.mp (by rw [hq]; rfl); unfold loB at hno; rw [this] at hno; exact absurd hno (by decide)
    have hle := ptW_le (V := V) (pl := T.2.1) (s := s) (ms := mvF T (s + 1) r) (j := j + 1) (vP V - (j + 1))
    rw [show j + 1 + (vP V - (j + 1)) = vP V by omega, ptW_P hO] at hle
    refine am_q_iload_n rfl rfl ?_
    refine am_q_aload_n rfl rfl ?_
    refine am_q_call rfl rfl (m_places _ _ _ hV1) rfl ?_
    refine am_q_igeN rfl (by omega) (by omega) (fun c_44 => absurd c_44 (by omega)) (fun c_44 => ?_)
    refine am_q_aload_n rfl rfl ?_
    refine am_q_iconst (v := nI 0) rfl rfl ?_
    refine am_q_iload_n rfl rfl ?_
    refine am_q_iload_n rfl rfl ?_
    refine am_q_call rfl rfl (m_mayStand (d + 3) n ν hV1 hO 0 (by decide) hT1 hI s (by omega) j (by omega)) rfl ?_
    refine am_q_if_eqB rfl (fun c_54 => ?_) (fun c_54 => ?_)
    · have e := ih (j + 1) μ1 (by omega) ⟨hinv.1, by rw [ptW_n c_54]; exact hinv.2⟩
      refine am_q_iinc [some _, some _, some _, some _] rfl (c := nI 1) rfl rfl (Nat.le_of_ble_eq_true rfl) (nI_add _ _) rfl ?_
      refine am_q_goto rfl ?_
      exact e
    · rw [ptW_y c_54] at hle
      simp only [List.length_append] at hle
      have hI2 := lay_I hI (by omega) c_44 hpn c_54
      have hmv : mvF (fup T.1 s 2, fup T.2.1 s (some j), T.2.2) (s + 1) r = mvF T (s + 1) r := mvF_cong (fun x hx => by show fup T.1 s 2 x = T.1 x; unfold fup; rw [if_neg (by omega)])
      have hjm : j ∈ bl (sOpen V T.2.1 s) := by rw [bl_open hO]; exact List.mem_filter.mpr ⟨List.mem_range.mpr c_44, c_54⟩
      obtain ⟨y, hy, μ2, rfl, hA2, hf2⟩ := hk (fup T.1 s 2, fup T.2.1 s (some j), T.2.2) (am_up (am_up μ1 145 (0 + 1 + s) (nI 2)) 145 (0 + 7 + s) (nI j)) (ws ++ ptW V T.2.1 s (mvF T (s + 1) r) j) ⟨mVal_c (fun i hi => by funext k; rw [am_up_ne (by omega), am_up_ne (by omega)]) hV1, mWall_set (by omega) rfl rfl hT1, hI2, htt, mSeen_c (fun k a b => by rw [am_up_ne (by omega), am_up_ne (by omega)]) hS1, lay_all hO (by omega) hs (sI_p hI) hall, mAcc_c (fun i k hi => by rw [am_up_ne (by omega), am_up_ne (by omega)]) hinv.2, by rw [hmv, List.length_append]; show _ + (waysL V (mvF T (s + 1) r) (fup T.2.1 s (some j))).length ≤ _; omega⟩
      rw [hmv] at hA2
      have e := ih (j + 1) _ (by omega) ⟨lay_fr (by omega) hT1 hpn hinv.1 hf2, mAcc_c (fun i k hi => by rw [am_up_ne (by omega), am_up_ne (by omega)]) (by rw [ptW_y c_54, ← List.append_assoc]; exact hA2)⟩
      refine am_q_aload_n rfl rfl ?_
      refine am_q_iconst (v := nI 0) rfl rfl ?_
      refine am_q_iload_n rfl rfl ?_
      refine am_q_iload_n rfl rfl ?_
      refine am_q_call rfl rfl (m_stand _ n 0 s (by decide) (by omega) _ _ _) rfl ?_
      refine am_q_aload_n rfl rfl ?_
      refine am_q_iload_n rfl rfl ?_
      refine am_q_iconst (v := nI 1) rfl rfl ?_
      refine am_q_iadd rfl (nI_add _ _) ?_
      refine am_q_call rfl rfl (hy) rfl ?_
      refine am_q_aload_n rfl rfl ?_
      refine am_q_iconst (v := nI 0) rfl rfl ?_
      refine am_q_iload_n rfl rfl ?_
      refine am_q_iload_n rfl rfl ?_
      refine am_q_call rfl rfl (m_leave _ n 0 s (by decide) (by omega) _ _ _) rfl ?_
      refine am_q_iinc [some _, some _, some _, some _] rfl (c := nI 1) rfl rfl (Nat.le_of_ble_eq_true rfl) (nI_add _ _) rfl ?_
      refine am_q_goto rfl ?_
      exact e

theorem m_lay2 (d : Nat) (n : Nat) {V : sVal} {S : sSeen} {t : Nat} {sw : Option Nat} {wn : Int32} (ν : am_N2) (hO : vOk V) (ht : t < 2 ^ 20) (hN : nOk V S) (s r : Nat) (hs : s + (r + 1) = vN V) (T : sWall) (μ : am_M2) (ws : List (Nat → Option Nat)) (hC : lC V S t sw wn s (r + 1) T μ ws) (hno : loB T s = true) (hk : ∀ (T : sWall) (μ : am_M2) (ws : List (Nat → Option Nat)), lC V S t sw wn (s + 1) r T μ ws → ∃ y, am_run (d + 7) 259 [.ref 133, .int (nI (s + 1))] (am_hp n μ ν) = some y ∧ lQ V S t sw wn n ν (s + 1) r T μ ws y) : am_w (d + 7) (Option.none : Option FieldType) am_g259 0 [some (.ref 133), some (.int (nI s)), none, none] [] (am_hp n μ ν) (lQ V S t sw wn n ν s (r + 1) T μ ws) := by
  have h6 := hO.1.1
  obtain ⟨hV, hT, hI, htt, hS, hall, hA, hlen⟩ := hC
  have k4 := (hI s (by omega)).1
  rw [mvF_y hno] at hlen
  refine am_q_iload_n rfl rfl ?_
  refine am_q_aload_n rfl rfl ?_
  refine am_q_call rfl rfl (m_souls _ _ _ hV) rfl ?_
  refine am_q_ineN rfl (by omega) (by omega) (fun c_5 => ?_) (fun c_5 => absurd c_5 (by omega))
  refine am_q_aload_n rfl rfl ?_
  refine am_q_iconst (v := nI 0) rfl rfl ?_
  refine am_q_iload_n rfl rfl ?_
  refine am_q_call rfl rfl (m_isNowW _ n ν 0 (by decide) hT s (by omega)) rfl ?_
  refine am_q_istore_n [some _, some _, some _, none] rfl (Nat.le_of_ble_eq_true rfl) rfl ?_
  refine am_q_aload_n rfl rfl ?_
  refine am_q_iconst (v := nI 0) rfl rfl ?_
  refine am_q_iload_n rfl rfl ?_
  refine am_q_call rfl rfl (m_isLoose _ n ν 0 (by decide) hT s (by omega) k4) rfl ?_
  refine am_q_if_neB rfl (fun c_26 => ?_) (fun c_26 => absurd (c_26.symm.trans hno) Bool.false_ne_true)
  refine am_q_iconst (v := nI 0) rfl rfl ?_
  refine am_q_istore_n [some _, some _, some _, some _] rfl (Nat.le_of_ble_eq_true rfl) rfl ?_
  exact m_layL d n ν hO ht hN s r hs T μ ws hV hT hI htt hS hall hlen hno hk (vP V) 0 μ (by omega) ⟨fr_rf μ, by show mAcc V S t sw wn μ (ws ++ []); rw [List.append_nil]; exact hA⟩

theorem m_lays (n : Nat) {V : sVal} {S : sSeen} {t : Nat} {sw : Option Nat} {wn : Int32} (ν : am_N2) (hO : vOk V) (ht : t < 2 ^ 20) (hN : nOk V S) : ∀ (r d s : Nat) (T : sWall) (μ : am_M2) (ws : List (Nat → Option Nat)), s + r = vN V → lC V S t sw wn s r T μ ws → ∃ y, am_run (d + r + 8) 259 [.ref 133, .int (nI s)] (am_hp n μ ν) = some y ∧ lQ V S t sw wn n ν s r T μ ws y := by
  intro r
  induction r with
  | zero =>
    intro d s T μ ws hs hC
    exact am_run_wE (k := 259) (d := d + 7) rfl rfl (Nat.le_of_ble_eq_true rfl) [some (.ref 133), some (.int (nI s)), none, none] rfl (m_lay0 d n ν hO ht hN s 0 hs T μ ws hC rfl)
  | succ r ih =>
    intro d s T μ ws hs hC
    have hk : ∀ (T : sWall) (μ : am_M2) (ws : List (Nat → Option Nat)), lC V S t sw wn (s + 1) r T μ ws → ∃ y, am_run (d + r + 1 + 7) 259 [.ref 133, .int (nI (s + 1))] (am_hp n μ ν) = some y ∧ lQ V S t sw wn n ν (s + 1) r T μ ws y := fun T μ ws h => ih d (s + 1) T μ ws (by omega) h
    have hw : am_w (d + r + 1 + 7) (Option.none : Option FieldType) am_g259 0 [some (.ref 133), some (.int (nI s)), none, none] [] (am_hp n μ ν) (lQ V S t sw wn n ν s (r + 1) T μ ws) := by
      cases hno : loB T s with
      | false => exact m_lay1 (d + r + 1) n ν hO ht hN s r hs T μ ws hC hno (hk T μ ws)
      | true => exact m_lay2 (d + r + 1) n ν hO ht hN s r hs T μ ws hC hno hk
    exact am_run_wE (k := 259) (d := d + r + 1 + 7) rfl rfl (Nat.le_of_ble_eq_true rfl) [some (.ref 133), some (.int (nI s)), none, none] rfl hw