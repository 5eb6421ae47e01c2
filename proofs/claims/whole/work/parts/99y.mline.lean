/-! ===== the model's parser: lines of a valley ===== -/
def onB (D : dft) : Nat := (if 0 < vP D.1 then 1 else 0) + (if 0 < vF D.1 then 2 else 0) + (if D.2.2 = true then 4 else 0)
def mDl (μ : am_M2) (D : dft) : Prop := (D.2.2 = false ∧ μ 139 54 = -1 ∧ vL D.1 = [-1, -2, -8] ∧ μ 133 12 = nI 0) ∨ (D.2.2 = true ∧ μ 139 54 = nI 0 ∧ (∀ j (h : j < (vL D.1).length), μ 140 (1100 + j) = nI (mEnc (vL D.1)[j])) ∧ μ 140 (1100 + (vL D.1).length) = nI 0 ∧ μ 133 12 = nI ((vL D.1).length + 1))
def mDf (μ : am_M2) (ν : am_N2) (D : dft) : Prop := (μ 139 50 = nI (vP D.1) ∧ μ 139 51 = nI (vN D.1) ∧ μ 139 52 = nI (vQ D.1) ∧ μ 139 53 = nI (mF D.1) ∧ μ 139 91 = nI (onB D)) ∧ (∀ s, s < vN D.1 → μ 139 (55 + 3 * s) = nI (vK D.1 s) ∧ μ 139 (55 + 3 * s + 1) = nI (vS D.1 s) ∧ μ 139 (55 + 3 * s + 2) = nI (vD D.1 s)) ∧ (∀ s, s < 6 → μ 139 (73 + s) = nI (vH D.1 s)) ∧ (∀ j, j < mF D.1 → μ 139 (79 + j) = nI (if 0 < vF D.1 then vR D.1 j else 0)) ∧ mDl μ D ∧ mNmR ν 6 D.2.1 (vN D.1)
def frMv (μ μ' : am_M2) : Prop := ∀ a k, ¬ (a = 133 ∧ (k = 7 ∨ k = 8 ∨ k = 12)) → ¬ (a = 140 ∧ 1100 ≤ k) → ¬ (a = 139 ∧ 50 ≤ k) → μ' a k = μ a k
def frMvL (ν ν' : am_N2) : Prop := ∀ a k, ¬ (a = 141 ∧ 6 ≤ k) → ν' a k = ν a k
theorem frMv_rf (μ : am_M2) : frMv μ μ := fun _ _ _ _ _ => rfl
theorem frMvL_rf (ν : am_N2) : frMvL ν ν := fun _ _ _ => rfl
theorem frMv_tr {μ μ' μ'' : am_M2} (h : frMv μ μ') (h' : frMv μ' μ'') : frMv μ μ'' := fun a k x y z => (h' a k x y z).trans (h a k x y z)
theorem frMvL_tr {ν ν' ν'' : am_N2} (h : frMvL ν ν') (h' : frMvL ν' ν'') : frMvL ν ν'' := fun a k x => (h' a k x).trans (h a k x)
theorem frMv_l {μ μ' : am_M2} (h : frMl μ μ') : frMv μ μ' := fun a k x y _ => h a k x y
theorem frMv_3 {μ : am_M2} {k : Nat} {v : Int32} (h : k = 7 ∨ k = 8 ∨ k = 12) : frMv μ (am_up μ 133 k v) := fun a b x y z => am_up_ne (by omega)
theorem frMv_9 {μ : am_M2} {k : Nat} {v : Int32} (h : 50 ≤ k) : frMv μ (am_up μ 139 k v) := fun a b x y z => am_up_ne (by omega)
def mvQ (X : tTp) (n : Nat) (μ : am_M2) (ν : am_N2) (r : Nat ⊕ (Nat × dft)) (y : am_R) : Prop := match r with
  | .inl c => ∃ μ' ν' i', y = (none, am_hp n μ' ν') ∧ μ' 133 8 = nI c ∧ 0 < c ∧ c < 2 ^ 20 ∧ μ' 133 7 = nI i' ∧ frMv μ μ' ∧ frMvL ν ν'
  | .inr q => ∃ μ' ν', y = (none, am_hp n μ' ν') ∧ mP μ' ν' X q.1 ∧ mDf μ' ν' q.2 ∧ frMv μ μ' ∧ frMvL ν ν'
theorem mv_wr {X : tTp} (hX : tpOk X) {n i j kk : Nat} {μ μ1 : am_M2} {ν ν1 : am_N2} (h0 : 0 < kk) (h1 : kk < 10) (hf : frMv μ μ1) (hl : frMvL ν ν1) (h7 : μ1 133 7 = nI j) : mvQ X n μ ν (.inl (wr X i kk)) (none, am_hp n (am_up μ1 133 8 (nI (wr X i kk))) ν1) := by
  obtain ⟨w0, w1⟩ := wr_b hX i h0 h1
  exact ⟨_, _, j, rfl, am_up_eq, w0, w1, (am_up_ne (by omega)).trans h7, frMv_tr hf (frMv_3 (by omega)), hl⟩
theorem on_b {D : dft} : (onB D).testBit 0 = decide (0 < vP D.1) ∧ (onB D).testBit 1 = decide (0 < vF D.1) ∧ (onB D).testBit 2 = D.2.2 ∧ onB D < 8 := by
  unfold onB
  by_cases a : 0 < vP D.1 <;> by_cases b : 0 < vF D.1 <;> cases c : D.2.2 <;> simp [a, b] <;> decide
theorem on_or : ∀ m, m < 8 → ∀ k, k < 3 → nI m ||| (nI 1 <<< (nI k &&& 31)) = nI (m ||| 2 ^ k) := by decide +kernel
/-- StoneSecretsModel.isOnce(I)Z -/
theorem m_once1 (d : Nat) (kk : Nat) (hkk : kk < 3) (m : Nat) (hm : m < 8) (n i : Nat) {X : tTp} {μ : am_M2} (ν : am_N2) (hX : tpOk X) (hP : mP μ ν X i) (h91 : μ 139 91 = nI m) (hb : m.testBit kk = true) : am_run (d + 2) 203 [.ref 133, .int (nI kk)] (am_hp n μ ν) = some (some (.int (sB false)), am_hp n (am_up μ 133 8 (nI (wr X i 3))) ν) := by
  refine am_r203 (d := d + 1) (Nat.le_of_ble_eq_true rfl) [some (.ref 133), some (.int (nI kk))] rfl ?_
  refine am_q_aload_n rfl rfl ?_
  refine am_q_gr rfl rfl rfl ?_
  refine am_q_bipush (v := nI 91) rfl rfl ?_
  refine am_q_iald rfl rfl (by first | exact am_ix_nI (by omega) (by omega) | rfl) h91 ?_
  refine am_q_iload_n rfl rfl ?_
  refine am_q_ishr rfl (sh_b1 m (by omega) kk (by omega)) ?_
  refine am_q_iconst (v := nI 1) rfl rfl ?_
  refine am_q_iand rfl (sn_and _ _) ?_
  refine am_q_iconst (v := nI 1) rfl rfl ?_
  refine am_q_ineN rfl (by have h2 : (m >>> kk) &&& 1 ≤ 1 := Nat.and_le_right; omega) (by omega) (fun c_12 => absurd ((sh_b2 m (by omega) kk (by omega)).mpr hb) c_12) (fun c_12 => ?_)
  refine am_q_aload_n rfl rfl ?_
  refine am_q_iconst (v := nI 3) rfl rfl ?_
  refine am_q_call rfl rfl (m_wrong0 _ 3 n i ν hX hP) rfl ?_
  refine am_q_iconst (v := nI 0) rfl rfl ?_
  refine am_q_ireturn rfl rfl rfl ?_
  rfl

/-- StoneSecretsModel.isOnce(I)Z -/
theorem m_once0 (d : Nat) (kk : Nat) (hkk : kk < 3) (m : Nat) (hm : m < 8) (n i : Nat) {X : tTp} {μ : am_M2} (ν : am_N2) (hX : tpOk X) (hP : mP μ ν X i) (h91 : μ 139 91 = nI m) (hb : ¬ m.testBit kk = true) : am_run (d + 2) 203 [.ref 133, .int (nI kk)] (am_hp n μ ν) = some (some (.int (sB true)), am_hp n (am_up (am_up μ 139 91 (nI (m ||| 2 ^ kk))) 133 7 (nI (i + 1))) ν) := by
  refine am_r203 (d := d + 1) (Nat.le_of_ble_eq_true rfl) [some (.ref 133), some (.int (nI kk))] rfl ?_
  refine am_q_aload_n rfl rfl ?_
  refine am_q_gr rfl rfl rfl ?_
  refine am_q_bipush (v := nI 91) rfl rfl ?_
  refine am_q_iald rfl rfl (by first | exact am_ix_nI (by omega) (by omega) | rfl) h91 ?_
  refine am_q_iload_n rfl rfl ?_
  refine am_q_ishr rfl (sh_b1 m (by omega) kk (by omega)) ?_
  refine am_q_iconst (v := nI 1) rfl rfl ?_
  refine am_q_iand rfl (sn_and _ _) ?_
  refine am_q_iconst (v := nI 1) rfl rfl ?_
  refine am_q_ineN rfl (by have h2 : (m >>> kk) &&& 1 ≤ 1 := Nat.and_le_right; omega) (by omega) (fun c_12 => ?_) (fun c_12 => absurd ((sh_b2 m (by omega) kk (by omega)).mp c_12) hb)
  refine am_q_aload_n rfl rfl ?_
  refine am_q_gr rfl rfl rfl ?_
  refine am_q_bipush (v := nI 91) rfl rfl ?_
  refine am_q_dup2ir rfl ?_
  refine am_q_iald rfl rfl (by first | exact am_ix_nI (by omega) (by omega) | rfl) h91 ?_
  refine am_q_iconst (v := nI 1) rfl rfl ?_
  refine am_q_iload_n rfl rfl ?_
  refine am_q_ishl rfl rfl ?_
  refine am_q_ior rfl (on_or m hm kk hkk) ?_
  refine am_q_iast rfl rfl (by first | exact am_ix_nI (by omega) (by omega) | rfl) rfl ?_
  refine am_q_aload_n rfl rfl ?_
  refine am_q_dupr rfl ?_
  refine am_q_gi rfl rfl rfl ((am_up_ne (by omega)).trans hP.2.2.1) ?_
  refine am_q_iconst (v := nI 1) rfl rfl ?_
  refine am_q_iadd rfl (nI_add _ _) ?_
  refine am_q_pi rfl rfl rfl (Or.inl rfl) ?_
  refine am_q_iconst (v := nI 1) rfl rfl ?_
  refine am_q_ireturn rfl rfl rfl ?_
  rfl
