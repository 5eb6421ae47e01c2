section AME
/-- a walk through a piece of code, up to where it is left -/
def am_v (d : Nat) (rt : Option FieldType) (cd : Nat → Option am_I) (pc : Nat) (L : am_L) (st : List Value) (h : am_H) (Q : Nat → am_L → List Value → am_H → Prop) : Prop := ∃ m pc' L' st' h', am_stn (am_run d) rt cd m pc L st h = some (pc', L', st', h') ∧ Q pc' L' st' h'
variable {d n : Nat} {rt : Option FieldType} {cd : Nat → Option am_I} {pc nx pc' r1 r2 r3 ps : Nat} {L L' : am_L} {st st' : List Value} {h h' : am_H} {Q : Nat → am_L → List Value → am_H → Prop} {cst : Value} {μ : am_M2} {ν : am_N2}
theorem am_v0 (k : Q pc L st h) : am_v d rt cd pc L st h Q := ⟨0, pc, L, st, h, rfl, k⟩
theorem am_v1 {E : am_I} (hE : cd pc = some E) (hs : am_step (am_run d) rt pc E L st h = some (.inl (pc', L', st', h'))) (k : am_v d rt cd pc' L' st' h' Q) : am_v d rt cd pc L st h Q := by
  obtain ⟨m, a, b, c, e, h1, h2⟩ := k
  refine ⟨m + 1, a, b, c, e, ?_, h2⟩
  unfold am_stn
  rw [hE]
  simp only
  rw [hs]
  exact h1
theorem am_v_mono {Q' : Nat → am_L → List Value → am_H → Prop} (hq : ∀ a b c e, Q a b c e → Q' a b c e) (k : am_v d rt cd pc L st h Q) : am_v d rt cd pc L st h Q' := by
  obtain ⟨m, a, b, c, e, h1, h2⟩ := k
  exact ⟨m, a, b, c, e, h1, hq _ _ _ _ h2⟩
theorem am_e_iconst {q : Int} {v : Int32} (hE : cd pc = some (.iconst q, nx, r1, r2, r3, ps, cst)) (hv : cst = .int v) (K : am_v d rt cd nx L (.int v :: st) h Q) : am_v d rt cd pc L (st) h Q := by
  subst hv; exact am_v1 hE rfl K
theorem am_e_bipush {q : Int} {v : Int32} (hE : cd pc = some (.bipush q, nx, r1, r2, r3, ps, cst)) (hv : cst = .int v) (K : am_v d rt cd nx L (.int v :: st) h Q) : am_v d rt cd pc L (st) h Q := by
  subst hv; exact am_v1 hE rfl K
theorem am_e_ldc2_w {q : Nat} {v : Int64} (hE : cd pc = some (.ldc2_w q, nx, r1, r2, r3, ps, cst)) (hv : cst = .long v) (K : am_v d rt cd nx L (.long v :: st) h Q) : am_v d rt cd pc L (st) h Q := by
  subst hv; exact am_v1 hE rfl K
theorem am_e_iload {i : Nat} {x : Int32} (hE : cd pc = some (.iload i, nx, r1, r2, r3, ps, cst)) (hl : L[i]? = some (some (.int x))) (K : am_v d rt cd nx L (.int x :: st) h Q) : am_v d rt cd pc L (st) h Q := by
  exact am_v1 hE (by simp only [am_step, am_li, hl]; rfl) K
theorem am_e_istore {i : Nat} {x : Int32} (L1 : am_L) (hE : cd pc = some (.istore i, nx, r1, r2, r3, ps, cst)) (hl : i < L.length) (h1 : am_s1 L i (.int x) = L1) (K : am_v d rt cd nx L1 (st) h Q) : am_v d rt cd pc L (.int x :: st) h Q := by
  subst h1; exact am_v1 hE (by simp only [am_step, am_si, if_pos hl]; rfl) K
theorem am_e_aload_n {i : Fin 4} {x : Nat} (hE : cd pc = some (.aload_n i, nx, r1, r2, r3, ps, cst)) (hl : L[i.val]? = some (some (.ref x))) (K : am_v d rt cd nx L (.ref x :: st) h Q) : am_v d rt cd pc L (st) h Q := by
  exact am_v1 hE (by simp only [am_step, am_la, hl]; rfl) K
theorem am_e_iinc {i : Nat} {q : Int} {x c v : Int32} (L1 : am_L) (hE : cd pc = some (.iinc i q, nx, r1, r2, r3, ps, cst)) (hc : cst = .int c) (hl : L[i]? = some (some (.int x))) (hlt : i < L.length) (hv : x + c = v) (h1 : am_s1 L i (.int v) = L1) (K : am_v d rt cd nx L1 (st) h Q) : am_v d rt cd pc L (st) h Q := by
  subst hc; subst hv; subst h1; exact am_v1 hE (by simp only [am_step, hl, if_pos hlt]; rfl) K
theorem am_e_iadd {x y v : Int32} (hE : cd pc = some (.iadd, nx, r1, r2, r3, ps, cst)) (hv : x + y = v) (K : am_v d rt cd nx L (.int v :: st) h Q) : am_v d rt cd pc L (.int y :: .int x :: st) h Q := by
  subst hv; exact am_v1 hE rfl K
theorem am_e_isub {x y v : Int32} (hE : cd pc = some (.isub, nx, r1, r2, r3, ps, cst)) (hv : x - y = v) (K : am_v d rt cd nx L (.int v :: st) h Q) : am_v d rt cd pc L (.int y :: .int x :: st) h Q := by
  subst hv; exact am_v1 hE rfl K
theorem am_e_iand {x y v : Int32} (hE : cd pc = some (.iand, nx, r1, r2, r3, ps, cst)) (hv : x &&& y = v) (K : am_v d rt cd nx L (.int v :: st) h Q) : am_v d rt cd pc L (.int y :: .int x :: st) h Q := by
  subst hv; exact am_v1 hE rfl K
theorem am_e_land {x y v : Int64} (hE : cd pc = some (.land, nx, r1, r2, r3, ps, cst)) (hv : x &&& y = v) (K : am_v d rt cd nx L (.long v :: st) h Q) : am_v d rt cd pc L (.long y :: .long x :: st) h Q := by
  subst hv; exact am_v1 hE rfl K
theorem am_e_lor {x y v : Int64} (hE : cd pc = some (.lor, nx, r1, r2, r3, ps, cst)) (hv : x ||| y = v) (K : am_v d rt cd nx L (.long v :: st) h Q) : am_v d rt cd pc L (.long y :: .long x :: st) h Q := by
  subst hv; exact am_v1 hE rfl K
theorem am_e_lshl {x v : Int64} {y : Int32} (hE : cd pc = some (.lshl, nx, r1, r2, r3, ps, cst)) (hv : x <<< (y.toInt64 &&& 63) = v) (K : am_v d rt cd nx L (.long v :: st) h Q) : am_v d rt cd pc L (.int y :: .long x :: st) h Q := by
  subst hv; exact am_v1 hE rfl K
theorem am_e_i2l {x : Int32} {v : Int64} (hE : cd pc = some (.i2l, nx, r1, r2, r3, ps, cst)) (hv : x.toInt64 = v) (K : am_v d rt cd nx L (.long v :: st) h Q) : am_v d rt cd pc L (.int x :: st) h Q := by
  subst hv; exact am_v1 hE rfl K
theorem am_e_lcmp {x y : Int64} {v : Int32} (hE : cd pc = some (.lcmp, nx, r1, r2, r3, ps, cst)) (hv : lg_cmp x y = v) (K : am_v d rt cd nx L (.int v :: st) h Q) : am_v d rt cd pc L (.long y :: .long x :: st) h Q := by
  subst hv; exact am_v1 hE rfl K
theorem am_e_goto {off : Int} (hE : cd pc = some (.goto off, nx, r1, r2, r3, ps, cst)) (K : am_v d rt cd r1 L (st) h Q) : am_v d rt cd pc L (st) h Q := by
  exact am_v1 hE rfl K
theorem am_e_icmp_eq {off : Int} {x y : Int32} (hE : cd pc = some (.if_icmp .eq off, nx, r1, r2, r3, ps, cst)) (kt : x = y → am_v d rt cd r1 L st h Q) (kf : ¬ x = y → am_v d rt cd nx L st h Q) : am_v d rt cd pc L (.int y :: .int x :: st) h Q := by
  by_cases hc : x = y
  · refine am_v1 (pc' := r1) (L' := L) (st' := st) (h' := h) hE ?_ (kt hc)
    simp only [am_step, am_c1, am_c2, am_q, hc, decide_true, cond_true, not_false_eq_true, not_true_eq_false, decide_false, cond_false]
    rfl
  · refine am_v1 (pc' := nx) (L' := L) (st' := st) (h' := h) hE ?_ (kf hc)
    simp only [am_step, am_c1, am_c2, am_q, hc, decide_true, cond_true, not_false_eq_true, not_true_eq_false, decide_false, cond_false]
    rfl
theorem am_e_if_eq {off : Int} {x : Int32} (hE : cd pc = some (.ifCond .eq off, nx, r1, r2, r3, ps, cst)) (kt : x = 0 → am_v d rt cd r1 L st h Q) (kf : ¬ x = 0 → am_v d rt cd nx L st h Q) : am_v d rt cd pc L (.int x :: st) h Q := by
  by_cases hc : x = 0
  · refine am_v1 (pc' := r1) (L' := L) (st' := st) (h' := h) hE ?_ (kt hc)
    simp only [am_step, am_c1, am_c2, am_q, hc, decide_true, cond_true, not_false_eq_true, not_true_eq_false, decide_false, cond_false]
    rfl
  · refine am_v1 (pc' := nx) (L' := L) (st' := st) (h' := h) hE ?_ (kf hc)
    simp only [am_step, am_c1, am_c2, am_q, hc, decide_true, cond_true, not_false_eq_true, not_true_eq_false, decide_false, cond_false]
    rfl
theorem am_e_icmp_ne {off : Int} {x y : Int32} (hE : cd pc = some (.if_icmp .ne off, nx, r1, r2, r3, ps, cst)) (kt : ¬ x = y → am_v d rt cd r1 L st h Q) (kf : x = y → am_v d rt cd nx L st h Q) : am_v d rt cd pc L (.int y :: .int x :: st) h Q := by
  by_cases hc : ¬ x = y
  · refine am_v1 (pc' := r1) (L' := L) (st' := st) (h' := h) hE ?_ (kt hc)
    simp only [am_step, am_c1, am_c2, am_q, hc, decide_true, cond_true, not_false_eq_true, not_true_eq_false, decide_false, cond_false]
    rfl
  · refine am_v1 (pc' := nx) (L' := L) (st' := st) (h' := h) hE ?_ (kf (Classical.not_not.mp hc))
    simp only [am_step, am_c1, am_c2, am_q, hc, decide_true, cond_true, not_false_eq_true, not_true_eq_false, decide_false, cond_false]
    rfl
theorem am_e_if_ne {off : Int} {x : Int32} (hE : cd pc = some (.ifCond .ne off, nx, r1, r2, r3, ps, cst)) (kt : ¬ x = 0 → am_v d rt cd r1 L st h Q) (kf : x = 0 → am_v d rt cd nx L st h Q) : am_v d rt cd pc L (.int x :: st) h Q := by
  by_cases hc : ¬ x = 0
  · refine am_v1 (pc' := r1) (L' := L) (st' := st) (h' := h) hE ?_ (kt hc)
    simp only [am_step, am_c1, am_c2, am_q, hc, decide_true, cond_true, not_false_eq_true, not_true_eq_false, decide_false, cond_false]
    rfl
  · refine am_v1 (pc' := nx) (L' := L) (st' := st) (h' := h) hE ?_ (kf (Classical.not_not.mp hc))
    simp only [am_step, am_c1, am_c2, am_q, hc, decide_true, cond_true, not_false_eq_true, not_true_eq_false, decide_false, cond_false]
    rfl
theorem am_e_icmp_lt {off : Int} {x y : Int32} (hE : cd pc = some (.if_icmp .lt off, nx, r1, r2, r3, ps, cst)) (kt : x < y → am_v d rt cd r1 L st h Q) (kf : ¬ x < y → am_v d rt cd nx L st h Q) : am_v d rt cd pc L (.int y :: .int x :: st) h Q := by
  by_cases hc : x < y
  · refine am_v1 (pc' := r1) (L' := L) (st' := st) (h' := h) hE ?_ (kt hc)
    simp only [am_step, am_c1, am_c2, am_q, hc, decide_true, cond_true, not_false_eq_true, not_true_eq_false, decide_false, cond_false]
    rfl
  · refine am_v1 (pc' := nx) (L' := L) (st' := st) (h' := h) hE ?_ (kf hc)
    simp only [am_step, am_c1, am_c2, am_q, hc, decide_true, cond_true, not_false_eq_true, not_true_eq_false, decide_false, cond_false]
    rfl
theorem am_e_if_lt {off : Int} {x : Int32} (hE : cd pc = some (.ifCond .lt off, nx, r1, r2, r3, ps, cst)) (kt : x < 0 → am_v d rt cd r1 L st h Q) (kf : ¬ x < 0 → am_v d rt cd nx L st h Q) : am_v d rt cd pc L (.int x :: st) h Q := by
  by_cases hc : x < 0
  · refine am_v1 (pc' := r1) (L' := L) (st' := st) (h' := h) hE ?_ (kt hc)
    simp only [am_step, am_c1, am_c2, am_q, hc, decide_true, cond_true, not_false_eq_true, not_true_eq_false, decide_false, cond_false]
    rfl
  · refine am_v1 (pc' := nx) (L' := L) (st' := st) (h' := h) hE ?_ (kf hc)
    simp only [am_step, am_c1, am_c2, am_q, hc, decide_true, cond_true, not_false_eq_true, not_true_eq_false, decide_false, cond_false]
    rfl
theorem am_e_icmp_ge {off : Int} {x y : Int32} (hE : cd pc = some (.if_icmp .ge off, nx, r1, r2, r3, ps, cst)) (kt : y ≤ x → am_v d rt cd r1 L st h Q) (kf : ¬ y ≤ x → am_v d rt cd nx L st h Q) : am_v d rt cd pc L (.int y :: .int x :: st) h Q := by
  by_cases hc : y ≤ x
  · refine am_v1 (pc' := r1) (L' := L) (st' := st) (h' := h) hE ?_ (kt hc)
    simp only [am_step, am_c1, am_c2, am_q, hc, decide_true, cond_true, not_false_eq_true, not_true_eq_false, decide_false, cond_false]
    rfl
  · refine am_v1 (pc' := nx) (L' := L) (st' := st) (h' := h) hE ?_ (kf hc)
    simp only [am_step, am_c1, am_c2, am_q, hc, decide_true, cond_true, not_false_eq_true, not_true_eq_false, decide_false, cond_false]
    rfl
theorem am_e_if_ge {off : Int} {x : Int32} (hE : cd pc = some (.ifCond .ge off, nx, r1, r2, r3, ps, cst)) (kt : 0 ≤ x → am_v d rt cd r1 L st h Q) (kf : ¬ 0 ≤ x → am_v d rt cd nx L st h Q) : am_v d rt cd pc L (.int x :: st) h Q := by
  by_cases hc : 0 ≤ x
  · refine am_v1 (pc' := r1) (L' := L) (st' := st) (h' := h) hE ?_ (kt hc)
    simp only [am_step, am_c1, am_c2, am_q, hc, decide_true, cond_true, not_false_eq_true, not_true_eq_false, decide_false, cond_false]
    rfl
  · refine am_v1 (pc' := nx) (L' := L) (st' := st) (h' := h) hE ?_ (kf hc)
    simp only [am_step, am_c1, am_c2, am_q, hc, decide_true, cond_true, not_false_eq_true, not_true_eq_false, decide_false, cond_false]
    rfl
theorem am_e_icmp_gt {off : Int} {x y : Int32} (hE : cd pc = some (.if_icmp .gt off, nx, r1, r2, r3, ps, cst)) (kt : y < x → am_v d rt cd r1 L st h Q) (kf : ¬ y < x → am_v d rt cd nx L st h Q) : am_v d rt cd pc L (.int y :: .int x :: st) h Q := by
  by_cases hc : y < x
  · refine am_v1 (pc' := r1) (L' := L) (st' := st) (h' := h) hE ?_ (kt hc)
    simp only [am_step, am_c1, am_c2, am_q, hc, decide_true, cond_true, not_false_eq_true, not_true_eq_false, decide_false, cond_false]
    rfl
  · refine am_v1 (pc' := nx) (L' := L) (st' := st) (h' := h) hE ?_ (kf hc)
    simp only [am_step, am_c1, am_c2, am_q, hc, decide_true, cond_true, not_false_eq_true, not_true_eq_false, decide_false, cond_false]
    rfl
theorem am_e_if_gt {off : Int} {x : Int32} (hE : cd pc = some (.ifCond .gt off, nx, r1, r2, r3, ps, cst)) (kt : 0 < x → am_v d rt cd r1 L st h Q) (kf : ¬ 0 < x → am_v d rt cd nx L st h Q) : am_v d rt cd pc L (.int x :: st) h Q := by
  by_cases hc : 0 < x
  · refine am_v1 (pc' := r1) (L' := L) (st' := st) (h' := h) hE ?_ (kt hc)
    simp only [am_step, am_c1, am_c2, am_q, hc, decide_true, cond_true, not_false_eq_true, not_true_eq_false, decide_false, cond_false]
    rfl
  · refine am_v1 (pc' := nx) (L' := L) (st' := st) (h' := h) hE ?_ (kf hc)
    simp only [am_step, am_c1, am_c2, am_q, hc, decide_true, cond_true, not_false_eq_true, not_true_eq_false, decide_false, cond_false]
    rfl
theorem am_e_icmp_le {off : Int} {x y : Int32} (hE : cd pc = some (.if_icmp .le off, nx, r1, r2, r3, ps, cst)) (kt : x ≤ y → am_v d rt cd r1 L st h Q) (kf : ¬ x ≤ y → am_v d rt cd nx L st h Q) : am_v d rt cd pc L (.int y :: .int x :: st) h Q := by
  by_cases hc : x ≤ y
  · refine am_v1 (pc' := r1) (L' := L) (st' := st) (h' := h) hE ?_ (kt hc)
    simp only [am_step, am_c1, am_c2, am_q, hc, decide_true, cond_true, not_false_eq_true, not_true_eq_false, decide_false, cond_false]
    rfl
  · refine am_v1 (pc' := nx) (L' := L) (st' := st) (h' := h) hE ?_ (kf hc)
    simp only [am_step, am_c1, am_c2, am_q, hc, decide_true, cond_true, not_false_eq_true, not_true_eq_false, decide_false, cond_false]
    rfl
theorem am_e_if_le {off : Int} {x : Int32} (hE : cd pc = some (.ifCond .le off, nx, r1, r2, r3, ps, cst)) (kt : x ≤ 0 → am_v d rt cd r1 L st h Q) (kf : ¬ x ≤ 0 → am_v d rt cd nx L st h Q) : am_v d rt cd pc L (.int x :: st) h Q := by
  by_cases hc : x ≤ 0
  · refine am_v1 (pc' := r1) (L' := L) (st' := st) (h' := h) hE ?_ (kt hc)
    simp only [am_step, am_c1, am_c2, am_q, hc, decide_true, cond_true, not_false_eq_true, not_true_eq_false, decide_false, cond_false]
    rfl
  · refine am_v1 (pc' := nx) (L' := L) (st' := st) (h' := h) hE ?_ (kf hc)
    simp only [am_step, am_c1, am_c2, am_q, hc, decide_true, cond_true, not_false_eq_true, not_true_eq_false, decide_false, cond_false]
    rfl
theorem am_e_alen {a m : Nat} {t : FieldType} {w : Bool} {f : Nat → Option Nat} {v : Int32} (hE : cd pc = some (.arraylength, nx, r1, r2, r3, ps, cst)) (hS : am_S0 n a = some (.inl (t, w, m, f))) (hv : Int32.ofNat m = v) (K : am_v d rt cd nx L (.int v :: st) (am_hp n μ ν) Q) : am_v d rt cd pc L (.ref a :: st) (am_hp n μ ν) Q := by
  subst hv
  refine am_v1 hE ?_ K
  simp only [am_step, am_alen, am_hp, hS]
  rfl
theorem am_e_iald {a m k : Nat} {w : Bool} {f : Nat → Option Nat} {j : Int32} {v : Int32} (hE : cd pc = some (.iaload, nx, r1, r2, r3, ps, cst)) (hS : am_S0 n a = some (.inl (.int, w, m, f))) (hi : am_ix j m = some k) (hv : μ a k = v) (K : am_v d rt cd nx L (.int v :: st) (am_hp n μ ν) Q) : am_v d rt cd pc L (.int j :: .ref a :: st) (am_hp n μ ν) Q := by
  subst hv
  refine am_v1 hE ?_ K
  simp only [am_step, am_ald, am_hp, hS, if_true, hi]
  rfl
theorem am_e_lald {a m k : Nat} {w : Bool} {f : Nat → Option Nat} {j : Int32} {v : Int64} (hE : cd pc = some (.laload, nx, r1, r2, r3, ps, cst)) (hS : am_S0 n a = some (.inl (.long, w, m, f))) (hi : am_ix j m = some k) (hv : ν a k = v) (K : am_v d rt cd nx L (.long v :: st) (am_hp n μ ν) Q) : am_v d rt cd pc L (.int j :: .ref a :: st) (am_hp n μ ν) Q := by
  subst hv
  refine am_v1 hE ?_ K
  simp only [am_step, am_ald, am_hp, hS, if_true, hi]
  rfl
theorem am_e_call {E : am_I} {k : Nat} {vs rest : List Value} {v : Option Value} {h' : am_H} {nx : Nat} {S2 : List Value} (hE : cd pc = some E) (hs : am_step (am_run d) rt pc E L st h = (match am_run d k vs h with
    | some (v, h') => am_n nx L (v.toList ++ rest) h'
    | none => none)) (hr : am_run d k vs h = some (v, h')) (h2 : v.toList ++ rest = S2) (K : am_v d rt cd nx L S2 h' Q) : am_v d rt cd pc L st h Q := by
  subst h2
  refine am_v1 hE ?_ K
  rw [hs, hr]
  rfl
theorem am_e_tsw {dd lo hi : Int} {offs : Array Int} {x : Int32} {t : Nat} (hE : cd pc = some (.tableswitch dd lo hi offs, nx, r1, r2, r3, ps, cst)) (ht : am_tsw pc dd lo hi offs.toList x = some t) (K : am_v d rt cd t L st h Q) : am_v d rt cd pc L (.int x :: st) h Q := by
  refine am_v1 hE ?_ K
  simp only [am_step, ht, am_jmp]
  rfl
end AME