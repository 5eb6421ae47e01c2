section AMC2
variable {d n : Nat} {rt : Option FieldType} {cd : Nat → Option am_I} {pc nx r1 r2 ps : Nat} {L : am_L} {st : List Value} {Q : am_R → Prop} {cst : Value} {μ : am_M2} {ν : am_N2}
def am_rwL (ν : am_N2) (a : Nat) (g : Nat → Int64) : am_N2 := fun i k => if i = a then g k else ν i k
theorem am_q_copy {i a b na nb m : Nat} {fa fb : Nat → Option Nat} (hE : cd pc = some (.invokestatic i, nx, r1, r2, 7, ps, cst)) (hSa : am_S0 n a = some (.inl (.int, true, na, fa))) (hSb : am_S0 n b = some (.inl (.int, true, nb, fb))) (ha : m ≤ na) (hb : m ≤ nb) (hm : m < 2 ^ 31) (hab : a ≠ b) (hcs : am_cs st ≤ 8)
    (K : am_w d rt cd nx L st (am_hp n (am_rw μ b (fun k => if k < m then μ a k else μ b k)) ν) Q) : am_w d rt cd pc L (.int (nI m) :: .int (nI 0) :: .ref b :: .int (nI 0) :: .ref a :: st) (am_hp n μ ν) Q := by
  have e : am_cp μ a 0 b 0 m = am_rw μ b (fun k => if k < m then μ a k else μ b k) := by
    funext x k
    unfold am_cp am_rw
    by_cases h : x = b
    · subst h; simp
    · simp [h]
  have z0 : (nI 0).toNatClampNeg = 0 := nI_clamp (by decide)
  have zm : (nI m).toNatClampNeg = m := nI_clamp hm
  refine am_w1 hE ?_ K
  simp only [am_step, am_copy, am_hp, hSa, hSb, if_true, z0, zm, Nat.zero_add]
  rw [if_neg]
  · rw [e]; rfl
  · rintro (q | q | q | q | q | q | q)
    · exact nI_pos hm q
    · exact nI_pos (n := 0) (by decide) q
    · exact nI_pos (n := 0) (by decide) q
    · omega
    · omega
    · omega
    · exact hab q
theorem am_q_copyL {i a b na nb m : Nat} {fa fb : Nat → Option Nat} (hE : cd pc = some (.invokestatic i, nx, r1, r2, 7, ps, cst)) (hSa : am_S0 n a = some (.inl (.long, true, na, fa))) (hSb : am_S0 n b = some (.inl (.long, true, nb, fb))) (ha : m ≤ na) (hb : m ≤ nb) (hm : m < 2 ^ 31) (hab : a ≠ b) (hcs : am_cs st ≤ 8)
    (K : am_w d rt cd nx L st (am_hp n μ (am_rwL ν b (fun k => if k < m then ν a k else ν b k))) Q) : am_w d rt cd pc L (.int (nI m) :: .int (nI 0) :: .ref b :: .int (nI 0) :: .ref a :: st) (am_hp n μ ν) Q := by
  have e : am_cpL ν a 0 b 0 m = am_rwL ν b (fun k => if k < m then ν a k else ν b k) := by
    funext x k
    unfold am_cpL am_rwL
    by_cases h : x = b
    · subst h; simp
    · simp [h]
  have z0 : (nI 0).toNatClampNeg = 0 := nI_clamp (by decide)
  have zm : (nI m).toNatClampNeg = m := nI_clamp hm
  refine am_w1 hE ?_ K
  simp only [am_step, am_copy, am_hp, hSa, hSb, if_true, z0, zm, Nat.zero_add]
  rw [if_neg]
  · rw [e]; rfl
  · rintro (q | q | q | q | q | q | q)
    · exact nI_pos hm q
    · exact nI_pos (n := 0) (by decide) q
    · exact nI_pos (n := 0) (by decide) q
    · omega
    · omega
    · omega
    · exact hab q
theorem am_q_callV1 {i k ci a r3 : Nat} {ks : List (Option Nat ⊕ Bool)} {x : Value} {v : Option Value} {h' : am_H} {S2 : List Value} (hE : cd pc = some (.invokevirtual i, nx, k, 2, r3, ps, .ref ci)) (hS : am_S0 n a = some (.inr (ci, ks))) (hr : am_run d k [.ref a, x] (am_hp n μ ν) = some (v, h')) (hcs : am_cs st ≤ 8) (h2 : v.toList ++ st = S2) (K : am_w d rt cd nx L S2 h' Q) : am_w d rt cd pc L (x :: .ref a :: st) (am_hp n μ ν) Q := by
  subst h2
  refine am_w1 hE ?_ K
  have e : am_recv ci 2 (x :: .ref a :: st) (am_hp n μ ν) = true := by
    simp [am_recv, am_hp, hS]
  simp only [am_step, e, if_true, am_call, List.drop_succ_cons, List.drop_zero, if_pos hcs, List.take_succ_cons, List.take_zero]
  rw [show ([x, Value.ref a] : List Value).reverse = [.ref a, x] from rfl, hr]
  rfl
end AMC2
/-- cell w is a wall -/
def isWl (n w : Nat) : Prop := am_S0 n w = some (.inr (7, [.inl (some 5), .inl (some (w + 1)), .inl (some (w + 2)), .inr true])) ∧ am_S0 n (w + 1) = some (.inl (.int, true, 6, fun _ => none)) ∧ am_S0 n (w + 2) = some (.inl (.int, true, 6, fun _ => none))

theorem am_wl_row {μ : am_M2} {w i : Nat} {a b : Nat → Int32} {x : Int32} (h : i < w ∨ w + 3 ≤ i) : am_wl μ w a b x i = μ i := by
  funext k
  unfold am_wl am_up am_rw
  rw [if_neg (by omega), if_neg (by omega), if_neg (by omega)]
theorem am_wl_st {μ : am_M2} {w : Nat} {a b : Nat → Int32} {x : Int32} (k : Nat) : am_wl μ w a b x (w + 1) k = a k := by
  unfold am_wl am_up am_rw
  rw [if_neg (by omega), if_neg (by omega), if_pos rfl]
theorem am_wl_sp {μ : am_M2} {w : Nat} {a b : Nat → Int32} {x : Int32} (k : Nat) : am_wl μ w a b x (w + 2) k = b k := by
  unfold am_wl am_up am_rw
  rw [if_neg (by omega), if_pos rfl]
theorem am_wl_t {μ : am_M2} {w : Nat} {a b : Nat → Int32} {x : Int32} : am_wl μ w a b x w 3 = x := by
  unfold am_wl am_up
  rw [if_pos rfl, if_pos rfl]
theorem xW_wl {μ : am_M2} {w : Nat} {a b : Nat → Int32} {st : Nat → Nat} {pl : Nat → Option Nat} {t : Nat} (h1 : ∀ s, s < 6 → a s = nI (st s)) (h2 : ∀ s, s < 6 → b s = sn_spot (pl s)) : xW (am_wl μ w a b (nI t)) w st pl t :=
  ⟨fun s hs => (am_wl_st s).trans (h1 s hs), fun s hs => (am_wl_sp s).trans (h2 s hs), am_wl_t⟩
theorem xW_rows {μ μ' : am_M2} {w : Nat} {st : Nat → Nat} {pl : Nat → Option Nat} {t : Nat} (h : ∀ i, w ≤ i → i < w + 3 → μ' i = μ i) (hW : xW μ w st pl t) : xW μ' w st pl t :=
  ⟨fun s hs => by rw [h _ (by omega) (by omega)]; exact hW.1 s hs, fun s hs => by rw [h _ (by omega) (by omega)]; exact hW.2.1 s hs, by rw [h _ (by omega) (by omega)]; exact hW.2.2⟩
theorem xVal_rows {μ μ' : am_M2} {V : sVal} (h : ∀ i, 5 ≤ i → i < 15 → μ' i = μ i) (hV : xVal μ V) : xVal μ' V := by
  obtain ⟨⟨h1, h2, h3, h4⟩, h5, h6, h7, h8, h9⟩ := hV
  have e : ∀ i, 5 ≤ i → i < 15 → ∀ k, μ' i k = μ i k := fun i a b k => by rw [h i a b]
  refine ⟨⟨by rw [e 5 (by decide) (by decide)]; exact h1, h2, by rw [e 5 (by decide) (by decide)]; exact h3, h4⟩, by rw [e 5 (by decide) (by decide)]; exact h5, by rw [e 5 (by decide) (by decide)]; exact h6, fun s hs => ?_, fun j hj => by rw [e 12 (by decide) (by decide)]; exact h8 j hj, fun z => ⟨by rw [e 13 (by decide) (by decide)]; exact (h9 z).1, fun j hj => by rw [e 14 (by decide) (by decide)]; exact (h9 z).2 j hj⟩⟩
  rw [e 7 (by decide) (by decide), e 8 (by decide) (by decide), e 9 (by decide) (by decide), e 10 (by decide) (by decide), e 11 (by decide) (by decide)]
  exact h7 s hs
abbrev sWall : Type := (Nat → Nat) × (Nat → Option Nat) × Nat
abbrev xWall (μ : am_M2) (w : Nat) (W : sWall) : Prop := xW μ w W.1 W.2.1 W.2.2
/-- the first six only -/
def am6 (f g : Nat → Int32) : Nat → Int32 := fun k => if k < 6 then f k else g k
/-- StoneSecrets$Wall.copyFrom(LStoneSecrets$Wall;)V -/
theorem s_wcopy (d : Nat) (n w v : Nat) (μ : am_M2) (ν : am_N2) (hw : isWl n w) (hv : isWl n v) (h3 : w + 3 ≤ v ∨ v + 3 ≤ w) : am_run (d + 1) 81 [.ref w, .ref v] (am_hp n μ ν) = some (none, am_hp n (am_wl μ w (am6 (μ (v + 1)) (μ (w + 1))) (am6 (μ (v + 2)) (μ (w + 2))) (μ v 3)) ν) := by
  refine am_r81 (d := d + 0) (Nat.le_of_ble_eq_true rfl) [some (.ref w), some (.ref v)] rfl ?_
  refine am_q_aload_n rfl rfl ?_
  refine am_q_aload_n rfl rfl ?_
  refine am_q_gi rfl hv.1 rfl rfl ?_
  refine am_q_pi rfl hw.1 rfl (Or.inl rfl) ?_
  refine am_q_aload_n rfl rfl ?_
  refine am_q_gr rfl hv.1 rfl ?_
  refine am_q_iconst (v := nI 0) rfl rfl ?_
  refine am_q_aload_n rfl rfl ?_
  refine am_q_gr rfl hw.1 rfl ?_
  refine am_q_iconst (v := nI 0) rfl rfl ?_
  refine am_q_bipush (v := nI 6) rfl rfl ?_
  refine am_q_copy rfl hv.2.1 hw.2.1 (by decide) (by decide) (by decide) (by omega) (Nat.le_of_ble_eq_true rfl) ?_
  refine am_q_aload_n rfl rfl ?_
  refine am_q_gr rfl hv.1 rfl ?_
  refine am_q_iconst (v := nI 0) rfl rfl ?_
  refine am_q_aload_n rfl rfl ?_
  refine am_q_gr rfl hw.1 rfl ?_
  refine am_q_iconst (v := nI 0) rfl rfl ?_
  refine am_q_bipush (v := nI 6) rfl rfl ?_
  refine am_q_copy rfl hv.2.2 hw.2.2 (by decide) (by decide) (by decide) (by omega) (Nat.le_of_ble_eq_true rfl) ?_
  refine am_q_return rfl rfl ?_
  have e : am_rw (am_rw (am_up μ w 3 (μ v 3)) (w + 1) (fun k => if k < 6 then am_up μ w 3 (μ v 3) (v + 1) k else am_up μ w 3 (μ v 3) (w + 1) k)) (w + 2) (fun k => if k < 6 then am_rw (am_up μ w 3 (μ v 3)) (w + 1) (fun k => if k < 6 then am_up μ w 3 (μ v 3) (v + 1) k else am_up μ w 3 (μ v 3) (w + 1) k) (v + 2) k else am_rw (am_up μ w 3 (μ v 3)) (w + 1) (fun k => if k < 6 then am_up μ w 3 (μ v 3) (v + 1) k else am_up μ w 3 (μ v 3) (w + 1) k) (w + 2) k) = am_wl μ w (am6 (μ (v + 1)) (μ (w + 1))) (am6 (μ (v + 2)) (μ (w + 2))) (μ v 3) := by
    have n1 : ¬ v + 1 = w := by omega
    have n2 : ¬ v + 2 = w := by omega
    have n3 : ¬ v + 2 = w + 1 := by omega
    have n4 : ¬ w + 1 = w := by omega
    have n5 : ¬ w + 2 = w := by omega
    have n6 : ¬ w + 2 = w + 1 := by omega
    funext i k
    unfold am_wl am6 am_rw am_up
    by_cases h1 : i = w + 2
    · subst h1; simp [n2, n3, n5, n6]
    · by_cases h2 : i = w + 1
      · subst h2; simp [n1, n4, h1]
      · simp [h1, h2]
  rw [← e]

theorem s_wcopyX (d n w v : Nat) {μ : am_M2} (ν : am_N2) (hw : isWl n w) (hv : isWl n v) (h3 : w + 3 ≤ v ∨ v + 3 ≤ w) {W : sWall} (hW : xWall μ v W) : ∃ a b, am_run (d + 1) 81 [.ref w, .ref v] (am_hp n μ ν) = some (none, am_hp n (am_wl μ w a b (nI W.2.2)) ν) ∧ (∀ s, s < 6 → a s = nI (W.1 s)) ∧ (∀ s, s < 6 → b s = sn_spot (W.2.1 s)) := by
  refine ⟨am6 (μ (v + 1)) (μ (w + 1)), am6 (μ (v + 2)) (μ (w + 2)), ?_, fun s hs => ?_, fun s hs => ?_⟩
  · rw [← hW.2.2]; exact s_wcopy d n w v μ ν hw hv h3
  · simp only [am6, if_pos hs]; exact hW.1 s hs
  · simp only [am6, if_pos hs]; exact hW.2.1 s hs
theorem isWl_ring (n k : Nat) (hk : k < 16) : isWl n (45 + 3 * k) := by
  rcases (show k = 0 ∨ k = 1 ∨ k = 2 ∨ k = 3 ∨ k = 4 ∨ k = 5 ∨ k = 6 ∨ k = 7 ∨ k = 8 ∨ k = 9 ∨ k = 10 ∨ k = 11 ∨ k = 12 ∨ k = 13 ∨ k = 14 ∨ k = 15 by omega) with rfl | rfl | rfl | rfl | rfl | rfl | rfl | rfl | rfl | rfl | rfl | rfl | rfl | rfl | rfl | rfl <;> exact ⟨rfl, rfl, rfl⟩
theorem isWl_mark (n k : Nat) (hk : k < 4) : isWl n (93 + 6 * k) := by
  rcases (show k = 0 ∨ k = 1 ∨ k = 2 ∨ k = 3 by omega) with rfl | rfl | rfl | rfl <;> exact ⟨rfl, rfl, rfl⟩
theorem isWl_35 (n : Nat) : isWl n 35 := ⟨rfl, rfl, rfl⟩
theorem isWl_38 (n : Nat) : isWl n 38 := ⟨rfl, rfl, rfl⟩
/-- what can be undone, the last first -/
def xUndo (μ : am_M2) (U : List sWall) : Prop := ∃ x, x < 16 ∧ μ 41 4 = nI x ∧ μ 41 5 = nI U.length ∧ U.length ≤ 16 ∧ ∀ j (h : j < U.length), xWall μ (45 + 3 * ((x + 15 - j) % 16)) U[j]
theorem xUndo_rows {μ μ' : am_M2} {U : List sWall} (h0 : μ' 41 4 = μ 41 4 ∧ μ' 41 5 = μ 41 5) (h : ∀ i, 45 ≤ i → i < 93 → μ' i = μ i) (hU : xUndo μ U) : xUndo μ' U := by
  obtain ⟨x, h1, h2, h3, h4, h5⟩ := hU
  refine ⟨x, h1, by rw [h0.1]; exact h2, by rw [h0.2]; exact h3, h4, fun j hj => xW_rows (fun i a b => h i (by omega) ?_) (h5 j hj)⟩
  have := Nat.mod_lt (x + 15 - j) (show 0 < 16 by decide)
  omega
/-- StoneSecrets$Past.keep(LStoneSecrets$Wall;)V -/
theorem s_keep (d : Nat) (n : Nat) {μ : am_M2} (ν : am_N2) {U : List sWall} {W : sWall} (hU : xUndo μ U) (hW : xWall μ 35 W) : ∃ (μ' : am_M2), am_run (d + 2) 80 [.ref 41, .ref 35] (am_hp n μ ν) = some (none, am_hp n μ' ν) ∧ xUndo μ' ((W :: U).take 16) ∧ μ' 41 3 = μ 41 3 ∧ (∀ i, i < 41 ∨ (41 < i ∧ i < 45) ∨ 93 ≤ i → μ' i = μ i) := by
  obtain ⟨x, h1, h2, h3, h4, h5⟩ := hU
  obtain ⟨a, b, hc, ha, hb⟩ := s_wcopyX (d := d) n (45 + 3 * x) 35 ν (isWl_ring n x h1) (isWl_35 n) (by omega) hW
  have hrow := fun i (hi : i < 45 + 3 * x ∨ 45 + 3 * x + 3 ≤ i) => am_wl_row (μ := μ) (a := a) (b := b) (x := nI W.2.2) hi
  have key : ∃ r, am_run (d + 2) 80 [.ref 41, .ref 35] (am_hp n μ ν) = some r ∧ ∃ (μ' : am_M2), r = (none, am_hp n μ' ν) ∧ xUndo μ' ((W :: U).take 16) ∧ μ' 41 3 = μ 41 3 ∧ (∀ i, i < 41 ∨ (41 < i ∧ i < 45) ∨ 93 ≤ i → μ' i = μ i) := am_run_wE (k := 80) (d := d + 1) rfl rfl (Nat.le_of_ble_eq_true rfl) [some (.ref 41), some (.ref 35)] rfl (by
    refine am_q_aload_n rfl rfl ?_
    refine am_q_gr rfl rfl rfl ?_
    refine am_q_aload_n rfl rfl ?_
    refine am_q_gi rfl rfl rfl h2 ?_
    refine am_q_aald rfl rfl (am_ix_nI h1 (by decide)) rfl ?_
    refine am_q_aload_n rfl rfl ?_
    refine am_q_callV1 rfl (isWl_ring n x h1).1 (hc) (Nat.le_of_ble_eq_true rfl) rfl ?_
    refine am_q_aload_n rfl rfl ?_
    refine am_q_aload_n rfl rfl ?_
    refine am_q_gi rfl rfl rfl ((congrFun (hrow 41 (by omega)) 4).trans h2) ?_
    refine am_q_iconst (v := nI 1) rfl rfl ?_
    refine am_q_iadd rfl (by first | exact nI_add _ _ | rfl) ?_
    refine am_q_bipush (v := nI 16) rfl rfl ?_
    refine am_q_irem rfl (by decide) (pk_rem (d := 16) (by omega) (by decide) (by decide)) ?_
    refine am_q_pi rfl rfl rfl (Or.inl rfl) ?_
    refine am_q_aload_n rfl rfl ?_
    refine am_q_aload_n rfl rfl ?_
    refine am_q_gi rfl rfl rfl ((congrFun (hrow 41 (by omega)) 5).trans h3) ?_
    refine am_q_iconst (v := nI 1) rfl rfl ?_
    refine am_q_iadd rfl (by first | exact nI_add _ _ | rfl) ?_
    refine am_q_bipush (v := nI 16) rfl rfl ?_
    refine am_q_call rfl rfl (s_min _ _ _ _) rfl ?_
    refine am_q_pi rfl rfl rfl (Or.inl rfl) ?_
    refine am_q_return rfl rfl ?_
    refine ⟨_, rfl, ?_, ?_, fun i hi => ?_⟩
    · have hmin : (if nI 16 < nI (U.length + 1) then nI 16 else nI (U.length + 1)) = nI ((W :: U).take 16).length := by
        rw [List.length_take, List.length_cons]
        by_cases z : 16 < U.length + 1
        · rw [if_pos ((nI_ltI (by decide) (by omega)).mpr z), Nat.min_eq_left (by omega)]
        · rw [if_neg (fun q => z ((nI_ltI (by decide) (by omega)).mp q)), Nat.min_eq_right (by omega)]
      refine ⟨(x + 1) % 16, Nat.mod_lt _ (by decide), rfl, hmin, by rw [List.length_take]; omega, fun j hj => ?_⟩
      have hj16 : j < 16 ∧ j < U.length + 1 := by rw [List.length_take, List.length_cons] at hj; omega
      have hm := Nat.mod_lt ((x + 1) % 16 + 15 - j) (show 0 < 16 by decide)
      have hx1 : (x + 1) % 16 = if x = 15 then 0 else x + 1 := by split <;> omega
      match j, hj, hj16 with
      | 0, hj, _ =>
        have e : ((x + 1) % 16 + 15 - 0) % 16 = x := by omega
        rw [e]
        refine xW_rows (μ := am_wl μ (45 + 3 * x) a b (nI W.2.2)) (fun i q1 q2 => ?_) (xW_wl ha hb)
        funext k'
        simp [am_up, show ¬ i = 41 by omega]
      | j + 1, hj, hj16 =>
        have hjU : j < U.length := by omega
        have e : ((x + 1) % 16 + 15 - (j + 1)) % 16 = (x + 15 - j) % 16 := by omega
        have ne : (x + 15 - j) % 16 ≠ x := by omega
        rw [e]
        have hg : ((W :: U).take 16)[j + 1] = U[j] := by simp
        rw [hg]
        refine xW_rows (μ := μ) (fun i q1 q2 => ?_) (h5 j hjU)
        have hr := hrow i (by omega)
        funext k'
        simp only [am_up, show ¬ i = 41 by omega, if_false]
        exact congrFun hr k'
    · show am_up (am_up _ 41 4 _) 41 5 _ 41 3 = _
      simp only [am_up]
      exact congrFun (hrow 41 (by omega)) 3
    · have hr := hrow i (by omega)
      funext k'
      simp only [am_up, show ¬ i = 41 by omega, if_false]
      exact congrFun hr k')
  obtain ⟨r, h1, μ', h2, h3⟩ := key
  exact ⟨μ', by rw [h1, h2], h3⟩

theorem s_bringBack0 (d : Nat) (n : Nat) {μ : am_M2} (ν : am_N2) (hU : xUndo μ []) : ∃ (u : Unit), am_run (d + 2) 96 [.ref 41, .ref 35] (am_hp n μ ν) = some (some (.int (sB false)), am_hp n μ ν) := by
  have key : ∃ r, am_run (d + 2) 96 [.ref 41, .ref 35] (am_hp n μ ν) = some r ∧ ∃ (u : Unit), r = (some (.int (sB false)), am_hp n μ ν) := am_run_wE (k := 96) (d := d + 1) rfl rfl (Nat.le_of_ble_eq_true rfl) [some (.ref 41), some (.ref 35)] rfl (by
    refine am_q_aload_n rfl rfl ?_
    refine am_q_gi rfl rfl rfl (by obtain ⟨x, -, -, h, -⟩ := hU; exact h) ?_
    refine am_q_if_ne rfl (fun c_4 => absurd (rfl) c_4) (fun c_4 => ?_)
    refine am_q_iconst (v := nI 0) rfl rfl ?_
    refine am_q_ireturn rfl rfl rfl ?_
    exact ⟨(), rfl⟩)
  obtain ⟨r, h1, u, h2⟩ := key
  exact ⟨u, by rw [h1, h2]⟩

/-- StoneSecrets$Past.bringBack(LStoneSecrets$Wall;)Z -/
theorem s_bringBack (d : Nat) (n : Nat) {μ : am_M2} (ν : am_N2) {U : List sWall} {W : sWall} (hU : xUndo μ (W :: U)) : ∃ (μ' : am_M2), am_run (d + 2) 96 [.ref 41, .ref 35] (am_hp n μ ν) = some (some (.int (sB true)), am_hp n μ' ν) ∧ xUndo μ' U ∧ xWall μ' 35 W ∧ μ' 41 3 = μ 41 3 ∧ (∀ i, i < 35 ∨ (38 ≤ i ∧ i < 41) ∨ 41 < i → μ' i = μ i) := by
  obtain ⟨x, h1, h2, h3, h4, h5⟩ := hU
  have hy := Nat.mod_lt (x + 15) (show 0 < 16 by decide)
  generalize hyd : (x + 15) % 16 = y at hy
  have h50 : xWall μ (45 + 3 * y) W := by (have := h5 0 (by simp); rw [Nat.sub_zero, hyd] at this; exact this)
  obtain ⟨a, b, hc, ha, hb⟩ := s_wcopyX (d := d) (μ := am_up (am_up μ 41 4 (nI y)) 41 5 (nI U.length)) n 35 (45 + 3 * y) ν (isWl_35 n) (isWl_ring n y hy) (by omega) (W := W) (xW_rows (fun i q1 q2 => by funext k; simp [am_up, show ¬ i = 41 by omega]) h50)
  have key : ∃ r, am_run (d + 2) 96 [.ref 41, .ref 35] (am_hp n μ ν) = some r ∧ ∃ (μ' : am_M2), r = (some (.int (sB true)), am_hp n μ' ν) ∧ xUndo μ' U ∧ xWall μ' 35 W ∧ μ' 41 3 = μ 41 3 ∧ (∀ i, i < 35 ∨ (38 ≤ i ∧ i < 41) ∨ 41 < i → μ' i = μ i) := am_run_wE (k := 96) (d := d + 1) rfl rfl (Nat.le_of_ble_eq_true rfl) [some (.ref 41), some (.ref 35)] rfl (by
    refine am_q_aload_n rfl rfl ?_
    refine am_q_gi rfl rfl rfl h3 ?_
    refine am_q_if_ne rfl (fun c_4 => ?_) (fun c_4 => absurd c_4 (nI_ne0 (by simp) (by omega)))
    refine am_q_aload_n rfl rfl ?_
    refine am_q_aload_n rfl rfl ?_
    refine am_q_gi rfl rfl rfl h2 ?_
    refine am_q_bipush (v := nI 16) rfl rfl ?_
    refine am_q_iadd rfl (by first | exact nI_add _ _ | rfl) ?_
    refine am_q_iconst (v := nI 1) rfl rfl ?_
    refine am_q_isub rfl (show nI (x + 16) - nI 1 = nI (x + 15) from nI_pred (x + 15)) ?_
    refine am_q_bipush (v := nI 16) rfl rfl ?_
    refine am_q_irem rfl (by decide) ((pk_rem (d := 16) (by omega) (by decide) (by decide)).trans (by rw [hyd])) ?_
    refine am_q_pi rfl rfl rfl (Or.inl rfl) ?_
    refine am_q_aload_n rfl rfl ?_
    refine am_q_dupr rfl ?_
    refine am_q_gi rfl rfl rfl h3 ?_
    refine am_q_iconst (v := nI 1) rfl rfl ?_
    refine am_q_isub rfl (show nI (W :: U).length - nI 1 = nI U.length from nI_pred _) ?_
    refine am_q_pi rfl rfl rfl (Or.inl rfl) ?_
    refine am_q_aload_n rfl rfl ?_
    refine am_q_aload_n rfl rfl ?_
    refine am_q_gr rfl rfl rfl ?_
    refine am_q_aload_n rfl rfl ?_
    refine am_q_gi rfl rfl rfl rfl ?_
    refine am_q_aald rfl rfl (am_ix_nI hy (by decide)) rfl ?_
    refine am_q_call rfl rfl (hc) rfl ?_
    refine am_q_iconst (v := nI 1) rfl rfl ?_
    refine am_q_ireturn rfl rfl rfl ?_
    have hrow := fun i (hi : i < 35 ∨ 35 + 3 ≤ i) => am_wl_row (μ := am_up (am_up μ 41 4 (nI y)) 41 5 (nI U.length)) (a := a) (b := b) (x := nI W.2.2) hi
    have hne : ∀ i, i < 35 ∨ (38 ≤ i ∧ i < 41) ∨ 41 < i → am_wl (am_up (am_up μ 41 4 (nI y)) 41 5 (nI U.length)) 35 a b (nI W.2.2) i = μ i := fun i hi => by
      rw [hrow i (by omega)]
      funext k'
      simp [am_up, show ¬ i = 41 by omega]
    refine ⟨_, rfl, ⟨y, hy, ?_, ?_, by rw [List.length_cons] at h4; omega, fun j hj => ?_⟩, xW_wl ha hb, ?_, hne⟩
    · rw [hrow 41 (by omega)]; rfl
    · rw [hrow 41 (by omega)]; rfl
    · have e : (y + 15 - j) % 16 = (x + 15 - (j + 1)) % 16 := by rw [List.length_cons] at h4; omega
      rw [e]
      refine xW_rows (μ := μ) (fun i q1 q2 => hne i (by omega)) (h5 (j + 1) (by rw [List.length_cons]; omega))
    · rw [hrow 41 (by omega)]; rfl)
  obtain ⟨r, h1, μ', h2, h3⟩ := key
  exact ⟨μ', by rw [h1, h2], h3⟩

/-- StoneSecrets$Past.forgetAll()V -/
theorem s_forgetAll (d : Nat) (n : Nat) (μ : am_M2) (ν : am_N2) : am_run (d + 1) 57 [.ref 41] (am_hp n μ ν) = some (none, am_hp n (am_up (am_up μ 41 5 (nI 0)) 41 3 (nI 0)) ν) := by
  refine am_r57 (d := d + 0) (Nat.le_of_ble_eq_true rfl) [some (.ref 41)] rfl ?_
  refine am_q_aload_n rfl rfl ?_
  refine am_q_iconst (v := nI 0) rfl rfl ?_
  refine am_q_pi rfl rfl rfl (Or.inl rfl) ?_
  refine am_q_aload_n rfl rfl ?_
  refine am_q_iconst (v := nI 0) rfl rfl ?_
  refine am_q_pi rfl rfl rfl (Or.inl rfl) ?_
  refine am_q_return rfl rfl ?_
  rfl
