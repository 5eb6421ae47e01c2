section AMQ
/-- the heap behind the constructors: n ints of script, the ints, the longs -/
abbrev am_hp (n : Nat) (μ : am_M2) (ν : am_N2) : am_H := (0, 0, am_S0 n, μ, ν)
def am_w (d : Nat) (rt : Option FieldType) (cd : Nat → Option am_I) (pc : Nat) (L : am_L) (st : List Value) (h : am_H) (Q : am_R → Prop) : Prop := ∃ n r, am_ex (am_run d) rt cd n pc L st h = some r ∧ Q r
variable {d n : Nat} {rt : Option FieldType} {cd : Nat → Option am_I} {pc nx pc' r1 r2 r3 ps : Nat} {L L' : am_L} {st st' : List Value} {h h' : am_H} {Q : am_R → Prop} {cst : Value} {μ : am_M2} {ν : am_N2}
theorem am_w_mono {Q' : am_R → Prop} (hq : ∀ r, Q r → Q' r) (k : am_w d rt cd pc L st h Q) : am_w d rt cd pc L st h Q' := by
  obtain ⟨m, r, h1, h2⟩ := k
  exact ⟨m, r, h1, hq r h2⟩
theorem am_w1 {E : am_I} (hE : cd pc = some E) (hs : am_step (am_run d) rt pc E L st h = some (.inl (pc', L', st', h'))) (k : am_w d rt cd pc' L' st' h' Q) : am_w d rt cd pc L st h Q := by
  obtain ⟨m, r, h1, h2⟩ := k
  refine ⟨m + 1, r, ?_, h2⟩
  unfold am_ex
  rw [hE]
  simp only
  rw [hs]
  exact h1
theorem am_wr {E : am_I} {r : am_R} (hE : cd pc = some E) (hs : am_step (am_run d) rt pc E L st h = some (.inr r)) (k : Q r) : am_w d rt cd pc L st h Q := by
  refine ⟨1, r, ?_, k⟩
  unfold am_ex
  rw [hE]
  simp only
  rw [hs]
/-- a method's run out of a walk through its code -/
theorem am_run_w {k : Nat} {Y : am_Y} {q : Nat × (Nat → Option am_I)} {vs : List Value} {r : am_R} (hY : am_nm[k]? = some Y) (hq : am_cd[k]? = some q) (hl : (am_en vs).length ≤ Y.2.2.1) (L : am_L) (hL : am_en0 vs Y.2.2.1 = L) (hw : am_w d Y.2.2.2.1 (am_cut q.1 q.2) 0 L [] h (fun x => x = r)) : am_run (d + 1) k vs h = some r := by
  obtain ⟨m, r', h1, rfl⟩ := hw
  subst hL
  exact am_run_of hY hq hl h1
theorem am_q_iconst {q : Int} {v : Int32} (hE : cd pc = some (.iconst q, nx, r1, r2, r3, ps, cst)) (hv : cst = .int v) (K : am_w d rt cd nx L (.int v :: st) h Q) : am_w d rt cd pc L (st) h Q := by
  subst hv; exact am_w1 hE rfl K
theorem am_q_bipush {q : Int} {v : Int32} (hE : cd pc = some (.bipush q, nx, r1, r2, r3, ps, cst)) (hv : cst = .int v) (K : am_w d rt cd nx L (.int v :: st) h Q) : am_w d rt cd pc L (st) h Q := by
  subst hv; exact am_w1 hE rfl K
theorem am_q_sipush {q : Int} {v : Int32} (hE : cd pc = some (.sipush q, nx, r1, r2, r3, ps, cst)) (hv : cst = .int v) (K : am_w d rt cd nx L (.int v :: st) h Q) : am_w d rt cd pc L (st) h Q := by
  subst hv; exact am_w1 hE rfl K
theorem am_q_ldc {q : Nat} {v : Int32} (hE : cd pc = some (.ldc q, nx, r1, r2, r3, ps, cst)) (hv : cst = .int v) (K : am_w d rt cd nx L (.int v :: st) h Q) : am_w d rt cd pc L (st) h Q := by
  subst hv; exact am_w1 hE rfl K
theorem am_q_ldc_w {q : Nat} {v : Int32} (hE : cd pc = some (.ldc_w q, nx, r1, r2, r3, ps, cst)) (hv : cst = .int v) (K : am_w d rt cd nx L (.int v :: st) h Q) : am_w d rt cd pc L (st) h Q := by
  subst hv; exact am_w1 hE rfl K
theorem am_q_lconst {q : Fin 2} {v : Int64} (hE : cd pc = some (.lconst q, nx, r1, r2, r3, ps, cst)) (hv : cst = .long v) (K : am_w d rt cd nx L (.long v :: st) h Q) : am_w d rt cd pc L (st) h Q := by
  subst hv; exact am_w1 hE rfl K
theorem am_q_ldc2_w {q : Nat} {v : Int64} (hE : cd pc = some (.ldc2_w q, nx, r1, r2, r3, ps, cst)) (hv : cst = .long v) (K : am_w d rt cd nx L (.long v :: st) h Q) : am_w d rt cd pc L (st) h Q := by
  subst hv; exact am_w1 hE rfl K
theorem am_q_iload {i : Nat} {x : Int32} (hE : cd pc = some (.iload i, nx, r1, r2, r3, ps, cst)) (hl : L[i]? = some (some (.int x))) (K : am_w d rt cd nx L (.int x :: st) h Q) : am_w d rt cd pc L (st) h Q := by
  exact am_w1 hE (by simp only [am_step, am_li, hl]; rfl) K
theorem am_q_iload_n {i : Fin 4} {x : Int32} (hE : cd pc = some (.iload_n i, nx, r1, r2, r3, ps, cst)) (hl : L[i.val]? = some (some (.int x))) (K : am_w d rt cd nx L (.int x :: st) h Q) : am_w d rt cd pc L (st) h Q := by
  exact am_w1 hE (by simp only [am_step, am_li, hl]; rfl) K
theorem am_q_istore {i : Nat} {x : Int32} (L1 : am_L) (hE : cd pc = some (.istore i, nx, r1, r2, r3, ps, cst)) (hl : i < L.length) (h1 : am_s1 L i (.int x) = L1) (K : am_w d rt cd nx L1 (st) h Q) : am_w d rt cd pc L (.int x :: st) h Q := by
  subst h1; exact am_w1 hE (by simp only [am_step, am_si, if_pos hl]; rfl) K
theorem am_q_istore_n {i : Fin 4} {x : Int32} (L1 : am_L) (hE : cd pc = some (.istore_n i, nx, r1, r2, r3, ps, cst)) (hl : i.val < L.length) (h1 : am_s1 L i.val (.int x) = L1) (K : am_w d rt cd nx L1 (st) h Q) : am_w d rt cd pc L (.int x :: st) h Q := by
  subst h1; exact am_w1 hE (by simp only [am_step, am_si, if_pos hl]; rfl) K
theorem am_q_lload {i : Nat} {x : Int64} (hE : cd pc = some (.lload i, nx, r1, r2, r3, ps, cst)) (hl : L[i]? = some (some (.long x))) (K : am_w d rt cd nx L (.long x :: st) h Q) : am_w d rt cd pc L (st) h Q := by
  exact am_w1 hE (by simp only [am_step, am_ll, hl]; rfl) K
theorem am_q_lload_n {i : Fin 4} {x : Int64} (hE : cd pc = some (.lload_n i, nx, r1, r2, r3, ps, cst)) (hl : L[i.val]? = some (some (.long x))) (K : am_w d rt cd nx L (.long x :: st) h Q) : am_w d rt cd pc L (st) h Q := by
  exact am_w1 hE (by simp only [am_step, am_ll, hl]; rfl) K
theorem am_q_lstore {i : Nat} {x : Int64} (L1 : am_L) (hE : cd pc = some (.lstore i, nx, r1, r2, r3, ps, cst)) (hl : i + 1 < L.length) (h1 : am_s2 L i (.long x) = L1) (K : am_w d rt cd nx L1 (st) h Q) : am_w d rt cd pc L (.long x :: st) h Q := by
  subst h1; exact am_w1 hE (by simp only [am_step, am_sl, if_pos hl]; rfl) K
theorem am_q_lstore_n {i : Fin 4} {x : Int64} (L1 : am_L) (hE : cd pc = some (.lstore_n i, nx, r1, r2, r3, ps, cst)) (hl : i.val + 1 < L.length) (h1 : am_s2 L i.val (.long x) = L1) (K : am_w d rt cd nx L1 (st) h Q) : am_w d rt cd pc L (.long x :: st) h Q := by
  subst h1; exact am_w1 hE (by simp only [am_step, am_sl, if_pos hl]; rfl) K
theorem am_q_aload {i : Nat} {x : Nat} (hE : cd pc = some (.aload i, nx, r1, r2, r3, ps, cst)) (hl : L[i]? = some (some (.ref x))) (K : am_w d rt cd nx L (.ref x :: st) h Q) : am_w d rt cd pc L (st) h Q := by
  exact am_w1 hE (by simp only [am_step, am_la, hl]; rfl) K
theorem am_q_aload_n {i : Fin 4} {x : Nat} (hE : cd pc = some (.aload_n i, nx, r1, r2, r3, ps, cst)) (hl : L[i.val]? = some (some (.ref x))) (K : am_w d rt cd nx L (.ref x :: st) h Q) : am_w d rt cd pc L (st) h Q := by
  exact am_w1 hE (by simp only [am_step, am_la, hl]; rfl) K
theorem am_q_astore {i : Nat} {x : Nat} (L1 : am_L) (hE : cd pc = some (.astore i, nx, r1, r2, r3, ps, cst)) (hl : i < L.length) (h1 : am_s1 L i (.ref x) = L1) (K : am_w d rt cd nx L1 (st) h Q) : am_w d rt cd pc L (.ref x :: st) h Q := by
  subst h1; exact am_w1 hE (by simp only [am_step, am_sa, if_pos hl]; rfl) K
theorem am_q_astore_n {i : Fin 4} {x : Nat} (L1 : am_L) (hE : cd pc = some (.astore_n i, nx, r1, r2, r3, ps, cst)) (hl : i.val < L.length) (h1 : am_s1 L i.val (.ref x) = L1) (K : am_w d rt cd nx L1 (st) h Q) : am_w d rt cd pc L (.ref x :: st) h Q := by
  subst h1; exact am_w1 hE (by simp only [am_step, am_sa, if_pos hl]; rfl) K
theorem am_q_iinc {i : Nat} {q : Int} {x c v : Int32} (L1 : am_L) (hE : cd pc = some (.iinc i q, nx, r1, r2, r3, ps, cst)) (hc : cst = .int c) (hl : L[i]? = some (some (.int x))) (hlt : i < L.length) (hv : x + c = v) (h1 : am_s1 L i (.int v) = L1) (K : am_w d rt cd nx L1 (st) h Q) : am_w d rt cd pc L (st) h Q := by
  subst hc; subst hv; subst h1; exact am_w1 hE (by simp only [am_step, hl, if_pos hlt]; rfl) K
theorem am_q_iadd {x y v : Int32} (hE : cd pc = some (.iadd, nx, r1, r2, r3, ps, cst)) (hv : x + y = v) (K : am_w d rt cd nx L (.int v :: st) h Q) : am_w d rt cd pc L (.int y :: .int x :: st) h Q := by
  subst hv; exact am_w1 hE rfl K
theorem am_q_isub {x y v : Int32} (hE : cd pc = some (.isub, nx, r1, r2, r3, ps, cst)) (hv : x - y = v) (K : am_w d rt cd nx L (.int v :: st) h Q) : am_w d rt cd pc L (.int y :: .int x :: st) h Q := by
  subst hv; exact am_w1 hE rfl K
theorem am_q_imul {x y v : Int32} (hE : cd pc = some (.imul, nx, r1, r2, r3, ps, cst)) (hv : x * y = v) (K : am_w d rt cd nx L (.int v :: st) h Q) : am_w d rt cd pc L (.int y :: .int x :: st) h Q := by
  subst hv; exact am_w1 hE rfl K
theorem am_q_iand {x y v : Int32} (hE : cd pc = some (.iand, nx, r1, r2, r3, ps, cst)) (hv : x &&& y = v) (K : am_w d rt cd nx L (.int v :: st) h Q) : am_w d rt cd pc L (.int y :: .int x :: st) h Q := by
  subst hv; exact am_w1 hE rfl K
theorem am_q_ior {x y v : Int32} (hE : cd pc = some (.ior, nx, r1, r2, r3, ps, cst)) (hv : x ||| y = v) (K : am_w d rt cd nx L (.int v :: st) h Q) : am_w d rt cd pc L (.int y :: .int x :: st) h Q := by
  subst hv; exact am_w1 hE rfl K
theorem am_q_ixor {x y v : Int32} (hE : cd pc = some (.ixor, nx, r1, r2, r3, ps, cst)) (hv : x ^^^ y = v) (K : am_w d rt cd nx L (.int v :: st) h Q) : am_w d rt cd pc L (.int y :: .int x :: st) h Q := by
  subst hv; exact am_w1 hE rfl K
theorem am_q_ishl {x y v : Int32} (hE : cd pc = some (.ishl, nx, r1, r2, r3, ps, cst)) (hv : x <<< (y &&& 31) = v) (K : am_w d rt cd nx L (.int v :: st) h Q) : am_w d rt cd pc L (.int y :: .int x :: st) h Q := by
  subst hv; exact am_w1 hE rfl K
theorem am_q_ishr {x y v : Int32} (hE : cd pc = some (.ishr, nx, r1, r2, r3, ps, cst)) (hv : x >>> (y &&& 31) = v) (K : am_w d rt cd nx L (.int v :: st) h Q) : am_w d rt cd pc L (.int y :: .int x :: st) h Q := by
  subst hv; exact am_w1 hE rfl K
theorem am_q_iushr {x y v : Int32} (hE : cd pc = some (.iushr, nx, r1, r2, r3, ps, cst)) (hv : (x.toUInt32 >>> (y.toUInt32 &&& Int32.toUInt32 31)).toInt32 = v) (K : am_w d rt cd nx L (.int v :: st) h Q) : am_w d rt cd pc L (.int y :: .int x :: st) h Q := by
  subst hv; exact am_w1 hE rfl K
theorem am_q_ladd {x y v : Int64} (hE : cd pc = some (.ladd, nx, r1, r2, r3, ps, cst)) (hv : x + y = v) (K : am_w d rt cd nx L (.long v :: st) h Q) : am_w d rt cd pc L (.long y :: .long x :: st) h Q := by
  subst hv; exact am_w1 hE rfl K
theorem am_q_lsub {x y v : Int64} (hE : cd pc = some (.lsub, nx, r1, r2, r3, ps, cst)) (hv : x - y = v) (K : am_w d rt cd nx L (.long v :: st) h Q) : am_w d rt cd pc L (.long y :: .long x :: st) h Q := by
  subst hv; exact am_w1 hE rfl K
theorem am_q_lmul {x y v : Int64} (hE : cd pc = some (.lmul, nx, r1, r2, r3, ps, cst)) (hv : x * y = v) (K : am_w d rt cd nx L (.long v :: st) h Q) : am_w d rt cd pc L (.long y :: .long x :: st) h Q := by
  subst hv; exact am_w1 hE rfl K
theorem am_q_land {x y v : Int64} (hE : cd pc = some (.land, nx, r1, r2, r3, ps, cst)) (hv : x &&& y = v) (K : am_w d rt cd nx L (.long v :: st) h Q) : am_w d rt cd pc L (.long y :: .long x :: st) h Q := by
  subst hv; exact am_w1 hE rfl K
theorem am_q_lor {x y v : Int64} (hE : cd pc = some (.lor, nx, r1, r2, r3, ps, cst)) (hv : x ||| y = v) (K : am_w d rt cd nx L (.long v :: st) h Q) : am_w d rt cd pc L (.long y :: .long x :: st) h Q := by
  subst hv; exact am_w1 hE rfl K
theorem am_q_lxor {x y v : Int64} (hE : cd pc = some (.lxor, nx, r1, r2, r3, ps, cst)) (hv : x ^^^ y = v) (K : am_w d rt cd nx L (.long v :: st) h Q) : am_w d rt cd pc L (.long y :: .long x :: st) h Q := by
  subst hv; exact am_w1 hE rfl K
theorem am_q_lshl {x v : Int64} {y : Int32} (hE : cd pc = some (.lshl, nx, r1, r2, r3, ps, cst)) (hv : x <<< (y.toInt64 &&& 63) = v) (K : am_w d rt cd nx L (.long v :: st) h Q) : am_w d rt cd pc L (.int y :: .long x :: st) h Q := by
  subst hv; exact am_w1 hE rfl K
theorem am_q_lshr {x v : Int64} {y : Int32} (hE : cd pc = some (.lshr, nx, r1, r2, r3, ps, cst)) (hv : x >>> (y.toInt64 &&& 63) = v) (K : am_w d rt cd nx L (.long v :: st) h Q) : am_w d rt cd pc L (.int y :: .long x :: st) h Q := by
  subst hv; exact am_w1 hE rfl K
theorem am_q_lushr {x v : Int64} {y : Int32} (hE : cd pc = some (.lushr, nx, r1, r2, r3, ps, cst)) (hv : (x.toUInt64 >>> (y.toInt64.toUInt64 &&& Int64.toUInt64 63)).toInt64 = v) (K : am_w d rt cd nx L (.long v :: st) h Q) : am_w d rt cd pc L (.int y :: .long x :: st) h Q := by
  subst hv; exact am_w1 hE rfl K
theorem am_q_idiv {x y v : Int32} (hE : cd pc = some (.idiv, nx, r1, r2, r3, ps, cst)) (hy : ¬ y = 0) (hv : x / y = v) (K : am_w d rt cd nx L (.int v :: st) h Q) : am_w d rt cd pc L (.int y :: .int x :: st) h Q := by
  subst hv; exact am_w1 hE (by simp only [am_step, if_neg hy]; rfl) K
theorem am_q_irem {x y v : Int32} (hE : cd pc = some (.irem, nx, r1, r2, r3, ps, cst)) (hy : ¬ y = 0) (hv : x - x / y * y = v) (K : am_w d rt cd nx L (.int v :: st) h Q) : am_w d rt cd pc L (.int y :: .int x :: st) h Q := by
  subst hv; exact am_w1 hE (by simp only [am_step, if_neg hy]; rfl) K
theorem am_q_ldiv {x y v : Int64} (hE : cd pc = some (.ldiv, nx, r1, r2, r3, ps, cst)) (hy : ¬ y = 0) (hv : x / y = v) (K : am_w d rt cd nx L (.long v :: st) h Q) : am_w d rt cd pc L (.long y :: .long x :: st) h Q := by
  subst hv; exact am_w1 hE (by simp only [am_step, if_neg hy]; rfl) K
theorem am_q_lrem {x y v : Int64} (hE : cd pc = some (.lrem, nx, r1, r2, r3, ps, cst)) (hy : ¬ y = 0) (hv : x - x / y * y = v) (K : am_w d rt cd nx L (.long v :: st) h Q) : am_w d rt cd pc L (.long y :: .long x :: st) h Q := by
  subst hv; exact am_w1 hE (by simp only [am_step, if_neg hy]; rfl) K
theorem am_q_ineg {x v : Int32} (hE : cd pc = some (.ineg, nx, r1, r2, r3, ps, cst)) (hv : -x = v) (K : am_w d rt cd nx L (.int v :: st) h Q) : am_w d rt cd pc L (.int x :: st) h Q := by
  subst hv; exact am_w1 hE rfl K
theorem am_q_i2l {x : Int32} {v : Int64} (hE : cd pc = some (.i2l, nx, r1, r2, r3, ps, cst)) (hv : x.toInt64 = v) (K : am_w d rt cd nx L (.long v :: st) h Q) : am_w d rt cd pc L (.int x :: st) h Q := by
  subst hv; exact am_w1 hE rfl K
theorem am_q_l2i {x : Int64} {v : Int32} (hE : cd pc = some (.l2i, nx, r1, r2, r3, ps, cst)) (hv : x.toInt32 = v) (K : am_w d rt cd nx L (.int v :: st) h Q) : am_w d rt cd pc L (.long x :: st) h Q := by
  subst hv; exact am_w1 hE rfl K
theorem am_q_i2c {x v : Int32} (hE : cd pc = some (.i2c, nx, r1, r2, r3, ps, cst)) (hv : (x.toUInt32 % 65536).toInt32 = v) (K : am_w d rt cd nx L (.int v :: st) h Q) : am_w d rt cd pc L (.int x :: st) h Q := by
  subst hv; exact am_w1 hE rfl K
theorem am_q_lcmp {x y : Int64} {v : Int32} (hE : cd pc = some (.lcmp, nx, r1, r2, r3, ps, cst)) (hv : lg_cmp x y = v) (K : am_w d rt cd nx L (.int v :: st) h Q) : am_w d rt cd pc L (.long y :: .long x :: st) h Q := by
  subst hv; exact am_w1 hE rfl K
theorem am_q_dupi {x : Int32} (hE : cd pc = some (.dup, nx, r1, r2, r3, ps, cst)) (K : am_w d rt cd nx L (.int x :: .int x :: st) h Q) : am_w d rt cd pc L (.int x :: st) h Q := by
  exact am_w1 hE rfl K
theorem am_q_dupr {x : Nat} (hE : cd pc = some (.dup, nx, r1, r2, r3, ps, cst)) (K : am_w d rt cd nx L (.ref x :: .ref x :: st) h Q) : am_w d rt cd pc L (.ref x :: st) h Q := by
  exact am_w1 hE rfl K
theorem am_q_dup2ii {x y : Int32} (hE : cd pc = some (.dup2, nx, r1, r2, r3, ps, cst)) (K : am_w d rt cd nx L (.int x :: .int y :: .int x :: .int y :: st) h Q) : am_w d rt cd pc L (.int x :: .int y :: st) h Q := by
  exact am_w1 hE rfl K
theorem am_q_dup2ir {x : Int32} {y : Nat} (hE : cd pc = some (.dup2, nx, r1, r2, r3, ps, cst)) (K : am_w d rt cd nx L (.int x :: .ref y :: .int x :: .ref y :: st) h Q) : am_w d rt cd pc L (.int x :: .ref y :: st) h Q := by
  exact am_w1 hE rfl K
theorem am_q_popi {x : Int32} (hE : cd pc = some (.pop, nx, r1, r2, r3, ps, cst)) (K : am_w d rt cd nx L (st) h Q) : am_w d rt cd pc L (.int x :: st) h Q := by
  exact am_w1 hE rfl K
theorem am_q_popr {x : Nat} (hE : cd pc = some (.pop, nx, r1, r2, r3, ps, cst)) (K : am_w d rt cd nx L (st) h Q) : am_w d rt cd pc L (.ref x :: st) h Q := by
  exact am_w1 hE rfl K
theorem am_q_goto {off : Int} (hE : cd pc = some (.goto off, nx, r1, r2, r3, ps, cst)) (K : am_w d rt cd r1 L (st) h Q) : am_w d rt cd pc L (st) h Q := by
  exact am_w1 hE rfl K
theorem am_q_icmp_eq {off : Int} {x y : Int32} (hE : cd pc = some (.if_icmp .eq off, nx, r1, r2, r3, ps, cst)) (kt : x = y → am_w d rt cd r1 L st h Q) (kf : ¬ x = y → am_w d rt cd nx L st h Q) : am_w d rt cd pc L (.int y :: .int x :: st) h Q := by
  by_cases hc : x = y
  · refine am_w1 (pc' := r1) (L' := L) (st' := st) (h' := h) hE ?_ (kt hc)
    simp only [am_step, am_c1, am_c2, am_q, hc, decide_true, cond_true, not_false_eq_true, not_true_eq_false, decide_false, cond_false]
    rfl
  · refine am_w1 (pc' := nx) (L' := L) (st' := st) (h' := h) hE ?_ (kf hc)
    simp only [am_step, am_c1, am_c2, am_q, hc, decide_true, cond_true, not_false_eq_true, not_true_eq_false, decide_false, cond_false]
    rfl
theorem am_q_if_eq {off : Int} {x : Int32} (hE : cd pc = some (.ifCond .eq off, nx, r1, r2, r3, ps, cst)) (kt : x = 0 → am_w d rt cd r1 L st h Q) (kf : ¬ x = 0 → am_w d rt cd nx L st h Q) : am_w d rt cd pc L (.int x :: st) h Q := by
  by_cases hc : x = 0
  · refine am_w1 (pc' := r1) (L' := L) (st' := st) (h' := h) hE ?_ (kt hc)
    simp only [am_step, am_c1, am_c2, am_q, hc, decide_true, cond_true, not_false_eq_true, not_true_eq_false, decide_false, cond_false]
    rfl
  · refine am_w1 (pc' := nx) (L' := L) (st' := st) (h' := h) hE ?_ (kf hc)
    simp only [am_step, am_c1, am_c2, am_q, hc, decide_true, cond_true, not_false_eq_true, not_true_eq_false, decide_false, cond_false]
    rfl
theorem am_q_icmp_ne {off : Int} {x y : Int32} (hE : cd pc = some (.if_icmp .ne off, nx, r1, r2, r3, ps, cst)) (kt : ¬ x = y → am_w d rt cd r1 L st h Q) (kf : x = y → am_w d rt cd nx L st h Q) : am_w d rt cd pc L (.int y :: .int x :: st) h Q := by
  by_cases hc : ¬ x = y
  · refine am_w1 (pc' := r1) (L' := L) (st' := st) (h' := h) hE ?_ (kt hc)
    simp only [am_step, am_c1, am_c2, am_q, hc, decide_true, cond_true, not_false_eq_true, not_true_eq_false, decide_false, cond_false]
    rfl
  · refine am_w1 (pc' := nx) (L' := L) (st' := st) (h' := h) hE ?_ (kf (Classical.not_not.mp hc))
    simp only [am_step, am_c1, am_c2, am_q, hc, decide_true, cond_true, not_false_eq_true, not_true_eq_false, decide_false, cond_false]
    rfl
theorem am_q_if_ne {off : Int} {x : Int32} (hE : cd pc = some (.ifCond .ne off, nx, r1, r2, r3, ps, cst)) (kt : ¬ x = 0 → am_w d rt cd r1 L st h Q) (kf : x = 0 → am_w d rt cd nx L st h Q) : am_w d rt cd pc L (.int x :: st) h Q := by
  by_cases hc : ¬ x = 0
  · refine am_w1 (pc' := r1) (L' := L) (st' := st) (h' := h) hE ?_ (kt hc)
    simp only [am_step, am_c1, am_c2, am_q, hc, decide_true, cond_true, not_false_eq_true, not_true_eq_false, decide_false, cond_false]
    rfl
  · refine am_w1 (pc' := nx) (L' := L) (st' := st) (h' := h) hE ?_ (kf (Classical.not_not.mp hc))
    simp only [am_step, am_c1, am_c2, am_q, hc, decide_true, cond_true, not_false_eq_true, not_true_eq_false, decide_false, cond_false]
    rfl
theorem am_q_icmp_lt {off : Int} {x y : Int32} (hE : cd pc = some (.if_icmp .lt off, nx, r1, r2, r3, ps, cst)) (kt : x < y → am_w d rt cd r1 L st h Q) (kf : ¬ x < y → am_w d rt cd nx L st h Q) : am_w d rt cd pc L (.int y :: .int x :: st) h Q := by
  by_cases hc : x < y
  · refine am_w1 (pc' := r1) (L' := L) (st' := st) (h' := h) hE ?_ (kt hc)
    simp only [am_step, am_c1, am_c2, am_q, hc, decide_true, cond_true, not_false_eq_true, not_true_eq_false, decide_false, cond_false]
    rfl
  · refine am_w1 (pc' := nx) (L' := L) (st' := st) (h' := h) hE ?_ (kf hc)
    simp only [am_step, am_c1, am_c2, am_q, hc, decide_true, cond_true, not_false_eq_true, not_true_eq_false, decide_false, cond_false]
    rfl
theorem am_q_if_lt {off : Int} {x : Int32} (hE : cd pc = some (.ifCond .lt off, nx, r1, r2, r3, ps, cst)) (kt : x < 0 → am_w d rt cd r1 L st h Q) (kf : ¬ x < 0 → am_w d rt cd nx L st h Q) : am_w d rt cd pc L (.int x :: st) h Q := by
  by_cases hc : x < 0
  · refine am_w1 (pc' := r1) (L' := L) (st' := st) (h' := h) hE ?_ (kt hc)
    simp only [am_step, am_c1, am_c2, am_q, hc, decide_true, cond_true, not_false_eq_true, not_true_eq_false, decide_false, cond_false]
    rfl
  · refine am_w1 (pc' := nx) (L' := L) (st' := st) (h' := h) hE ?_ (kf hc)
    simp only [am_step, am_c1, am_c2, am_q, hc, decide_true, cond_true, not_false_eq_true, not_true_eq_false, decide_false, cond_false]
    rfl
theorem am_q_icmp_ge {off : Int} {x y : Int32} (hE : cd pc = some (.if_icmp .ge off, nx, r1, r2, r3, ps, cst)) (kt : y ≤ x → am_w d rt cd r1 L st h Q) (kf : ¬ y ≤ x → am_w d rt cd nx L st h Q) : am_w d rt cd pc L (.int y :: .int x :: st) h Q := by
  by_cases hc : y ≤ x
  · refine am_w1 (pc' := r1) (L' := L) (st' := st) (h' := h) hE ?_ (kt hc)
    simp only [am_step, am_c1, am_c2, am_q, hc, decide_true, cond_true, not_false_eq_true, not_true_eq_false, decide_false, cond_false]
    rfl
  · refine am_w1 (pc' := nx) (L' := L) (st' := st) (h' := h) hE ?_ (kf hc)
    simp only [am_step, am_c1, am_c2, am_q, hc, decide_true, cond_true, not_false_eq_true, not_true_eq_false, decide_false, cond_false]
    rfl
theorem am_q_if_ge {off : Int} {x : Int32} (hE : cd pc = some (.ifCond .ge off, nx, r1, r2, r3, ps, cst)) (kt : 0 ≤ x → am_w d rt cd r1 L st h Q) (kf : ¬ 0 ≤ x → am_w d rt cd nx L st h Q) : am_w d rt cd pc L (.int x :: st) h Q := by
  by_cases hc : 0 ≤ x
  · refine am_w1 (pc' := r1) (L' := L) (st' := st) (h' := h) hE ?_ (kt hc)
    simp only [am_step, am_c1, am_c2, am_q, hc, decide_true, cond_true, not_false_eq_true, not_true_eq_false, decide_false, cond_false]
    rfl
  · refine am_w1 (pc' := nx) (L' := L) (st' := st) (h' := h) hE ?_ (kf hc)
    simp only [am_step, am_c1, am_c2, am_q, hc, decide_true, cond_true, not_false_eq_true, not_true_eq_false, decide_false, cond_false]
    rfl
theorem am_q_icmp_gt {off : Int} {x y : Int32} (hE : cd pc = some (.if_icmp .gt off, nx, r1, r2, r3, ps, cst)) (kt : y < x → am_w d rt cd r1 L st h Q) (kf : ¬ y < x → am_w d rt cd nx L st h Q) : am_w d rt cd pc L (.int y :: .int x :: st) h Q := by
  by_cases hc : y < x
  · refine am_w1 (pc' := r1) (L' := L) (st' := st) (h' := h) hE ?_ (kt hc)
    simp only [am_step, am_c1, am_c2, am_q, hc, decide_true, cond_true, not_false_eq_true, not_true_eq_false, decide_false, cond_false]
    rfl
  · refine am_w1 (pc' := nx) (L' := L) (st' := st) (h' := h) hE ?_ (kf hc)
    simp only [am_step, am_c1, am_c2, am_q, hc, decide_true, cond_true, not_false_eq_true, not_true_eq_false, decide_false, cond_false]
    rfl
theorem am_q_if_gt {off : Int} {x : Int32} (hE : cd pc = some (.ifCond .gt off, nx, r1, r2, r3, ps, cst)) (kt : 0 < x → am_w d rt cd r1 L st h Q) (kf : ¬ 0 < x → am_w d rt cd nx L st h Q) : am_w d rt cd pc L (.int x :: st) h Q := by
  by_cases hc : 0 < x
  · refine am_w1 (pc' := r1) (L' := L) (st' := st) (h' := h) hE ?_ (kt hc)
    simp only [am_step, am_c1, am_c2, am_q, hc, decide_true, cond_true, not_false_eq_true, not_true_eq_false, decide_false, cond_false]
    rfl
  · refine am_w1 (pc' := nx) (L' := L) (st' := st) (h' := h) hE ?_ (kf hc)
    simp only [am_step, am_c1, am_c2, am_q, hc, decide_true, cond_true, not_false_eq_true, not_true_eq_false, decide_false, cond_false]
    rfl
theorem am_q_icmp_le {off : Int} {x y : Int32} (hE : cd pc = some (.if_icmp .le off, nx, r1, r2, r3, ps, cst)) (kt : x ≤ y → am_w d rt cd r1 L st h Q) (kf : ¬ x ≤ y → am_w d rt cd nx L st h Q) : am_w d rt cd pc L (.int y :: .int x :: st) h Q := by
  by_cases hc : x ≤ y
  · refine am_w1 (pc' := r1) (L' := L) (st' := st) (h' := h) hE ?_ (kt hc)
    simp only [am_step, am_c1, am_c2, am_q, hc, decide_true, cond_true, not_false_eq_true, not_true_eq_false, decide_false, cond_false]
    rfl
  · refine am_w1 (pc' := nx) (L' := L) (st' := st) (h' := h) hE ?_ (kf hc)
    simp only [am_step, am_c1, am_c2, am_q, hc, decide_true, cond_true, not_false_eq_true, not_true_eq_false, decide_false, cond_false]
    rfl
theorem am_q_if_le {off : Int} {x : Int32} (hE : cd pc = some (.ifCond .le off, nx, r1, r2, r3, ps, cst)) (kt : x ≤ 0 → am_w d rt cd r1 L st h Q) (kf : ¬ x ≤ 0 → am_w d rt cd nx L st h Q) : am_w d rt cd pc L (.int x :: st) h Q := by
  by_cases hc : x ≤ 0
  · refine am_w1 (pc' := r1) (L' := L) (st' := st) (h' := h) hE ?_ (kt hc)
    simp only [am_step, am_c1, am_c2, am_q, hc, decide_true, cond_true, not_false_eq_true, not_true_eq_false, decide_false, cond_false]
    rfl
  · refine am_w1 (pc' := nx) (L' := L) (st' := st) (h' := h) hE ?_ (kf hc)
    simp only [am_step, am_c1, am_c2, am_q, hc, decide_true, cond_true, not_false_eq_true, not_true_eq_false, decide_false, cond_false]
    rfl
theorem am_q_gi {i a k ci : Nat} {ks : List (Option Nat ⊕ Bool)} {v : Int32} (hE : cd pc = some (.getfield i, nx, ci, k, r3, ps, cst)) (hS : am_S0 n a = some (.inr (ci, ks))) (hk : ks[k]? = some (.inr true)) (hv : μ a k = v) (K : am_w d rt cd nx L (.int v :: st) (am_hp n μ ν) Q) : am_w d rt cd pc L (.ref a :: st) (am_hp n μ ν) Q := by
  subst hv
  refine am_w1 hE ?_ K
  simp only [am_step, am_getf, am_hp, hS, hk, if_true]
  rfl
theorem am_q_gl {i a k ci : Nat} {ks : List (Option Nat ⊕ Bool)} {v : Int64} (hE : cd pc = some (.getfield i, nx, ci, k, r3, ps, cst)) (hS : am_S0 n a = some (.inr (ci, ks))) (hk : ks[k]? = some (.inr false)) (hv : ν a k = v) (K : am_w d rt cd nx L (.long v :: st) (am_hp n μ ν) Q) : am_w d rt cd pc L (.ref a :: st) (am_hp n μ ν) Q := by
  subst hv
  refine am_w1 hE ?_ K
  simp only [am_step, am_getf, am_hp, hS, hk, if_true]
  rfl
theorem am_q_gr {i a k ci j : Nat} {ks : List (Option Nat ⊕ Bool)} (hE : cd pc = some (.getfield i, nx, ci, k, r3, ps, cst)) (hS : am_S0 n a = some (.inr (ci, ks))) (hk : ks[k]? = some (.inl (some j))) (K : am_w d rt cd nx L (.ref j :: st) (am_hp n μ ν) Q) : am_w d rt cd pc L (.ref a :: st) (am_hp n μ ν) Q := by
  refine am_w1 hE ?_ K
  simp only [am_step, am_getf, am_hp, hS, hk, if_true]
  rfl
theorem am_q_pi {i a k ci t : Nat} {ks : List (Option Nat ⊕ Bool)} {x : Int32} (hE : cd pc = some (.putfield i, nx, ci, k, t, ps, cst)) (hS : am_S0 n a = some (.inr (ci, ks))) (hk : ks[k]? = some (.inr true)) (ht : t = 0 ∨ (t = 1 ∧ (x = 0 ∨ x = 1))) (K : am_w d rt cd nx L st (am_hp n (am_up μ a k x) ν) Q) : am_w d rt cd pc L (.int x :: .ref a :: st) (am_hp n μ ν) Q := by
  refine am_w1 hE ?_ K
  simp only [am_step, am_putf, am_hp, hS, hk, if_true, if_pos ht]
  rfl
theorem am_q_pl {i a k ci : Nat} {ks : List (Option Nat ⊕ Bool)} {x : Int64} (hE : cd pc = some (.putfield i, nx, ci, k, 2, ps, cst)) (hS : am_S0 n a = some (.inr (ci, ks))) (hk : ks[k]? = some (.inr false)) (K : am_w d rt cd nx L st (am_hp n μ (am_upL ν a k x)) Q) : am_w d rt cd pc L (.long x :: .ref a :: st) (am_hp n μ ν) Q := by
  refine am_w1 hE ?_ K
  simp only [am_step, am_putf, am_hp, hS, hk, if_true]
  rfl
theorem am_q_getstatic {i : Nat} (hE : cd pc = some (.getstatic i, nx, r1, r2, r3, ps, cst)) (K : am_w d rt cd nx L (.ref 1 :: st) h Q) : am_w d rt cd pc L st h Q := am_w1 hE rfl K
theorem am_q_alen {a m : Nat} {t : FieldType} {w : Bool} {f : Nat → Option Nat} {v : Int32} (hE : cd pc = some (.arraylength, nx, r1, r2, r3, ps, cst)) (hS : am_S0 n a = some (.inl (t, w, m, f))) (hv : Int32.ofNat m = v) (K : am_w d rt cd nx L (.int v :: st) (am_hp n μ ν) Q) : am_w d rt cd pc L (.ref a :: st) (am_hp n μ ν) Q := by
  subst hv
  refine am_w1 hE ?_ K
  simp only [am_step, am_alen, am_hp, hS]
  rfl
theorem am_q_iald {a m k : Nat} {w : Bool} {f : Nat → Option Nat} {j : Int32} {v : Int32} (hE : cd pc = some (.iaload, nx, r1, r2, r3, ps, cst)) (hS : am_S0 n a = some (.inl (.int, w, m, f))) (hi : am_ix j m = some k) (hv : μ a k = v) (K : am_w d rt cd nx L (.int v :: st) (am_hp n μ ν) Q) : am_w d rt cd pc L (.int j :: .ref a :: st) (am_hp n μ ν) Q := by
  subst hv
  refine am_w1 hE ?_ K
  simp only [am_step, am_ald, am_hp, hS, if_true, hi]
  rfl
theorem am_q_cald {a m k : Nat} {w : Bool} {f : Nat → Option Nat} {j : Int32} {v : Int32} (hE : cd pc = some (.caload, nx, r1, r2, r3, ps, cst)) (hS : am_S0 n a = some (.inl (.char, w, m, f))) (hi : am_ix j m = some k) (hv : μ a k = v) (K : am_w d rt cd nx L (.int v :: st) (am_hp n μ ν) Q) : am_w d rt cd pc L (.int j :: .ref a :: st) (am_hp n μ ν) Q := by
  subst hv
  refine am_w1 hE ?_ K
  simp only [am_step, am_ald, am_hp, hS, if_true, hi]
  rfl
theorem am_q_zald {a m k : Nat} {w : Bool} {f : Nat → Option Nat} {j : Int32} {v : Int32} (hE : cd pc = some (.baload, nx, r1, r2, r3, ps, cst)) (hS : am_S0 n a = some (.inl (.boolean, w, m, f))) (hi : am_ix j m = some k) (hv : μ a k = v) (K : am_w d rt cd nx L (.int v :: st) (am_hp n μ ν) Q) : am_w d rt cd pc L (.int j :: .ref a :: st) (am_hp n μ ν) Q := by
  subst hv
  refine am_w1 hE ?_ K
  simp only [am_step, am_ald, am_hp, hS, if_true, hi]
  rfl
theorem am_q_lald {a m k : Nat} {w : Bool} {f : Nat → Option Nat} {j : Int32} {v : Int64} (hE : cd pc = some (.laload, nx, r1, r2, r3, ps, cst)) (hS : am_S0 n a = some (.inl (.long, w, m, f))) (hi : am_ix j m = some k) (hv : ν a k = v) (K : am_w d rt cd nx L (.long v :: st) (am_hp n μ ν) Q) : am_w d rt cd pc L (.int j :: .ref a :: st) (am_hp n μ ν) Q := by
  subst hv
  refine am_w1 hE ?_ K
  simp only [am_step, am_ald, am_hp, hS, if_true, hi]
  rfl
theorem am_q_aald {a m k b : Nat} {C : String} {f : Nat → Option Nat} {j : Int32} (hE : cd pc = some (.aaload, nx, r1, r2, r3, ps, cst)) (hS : am_S0 n a = some (.inl (.object C, true, m, f))) (hi : am_ix j m = some k) (hb : f k = some b) (K : am_w d rt cd nx L (.ref b :: st) (am_hp n μ ν) Q) : am_w d rt cd pc L (.int j :: .ref a :: st) (am_hp n μ ν) Q := by
  refine am_w1 hE ?_ K
  simp only [am_step, am_aldq, am_hp, hS, hi, hb]
  rfl
theorem am_q_iast {a m k : Nat} {f : Nat → Option Nat} {j x : Int32} (hE : cd pc = some (.iastore, nx, r1, r2, r3, ps, cst)) (hS : am_S0 n a = some (.inl (.int, true, m, f))) (hi : am_ix j m = some k) (hx : am_iok .int x = true) (K : am_w d rt cd nx L st (am_hp n (am_up μ a k x) ν) Q) : am_w d rt cd pc L (.int x :: .int j :: .ref a :: st) (am_hp n μ ν) Q := by
  refine am_w1 hE ?_ K
  simp only [am_step, am_ast, am_hp, hS, if_true, hi, hx]
  rfl
theorem am_q_cast {a m k : Nat} {f : Nat → Option Nat} {j x : Int32} (hE : cd pc = some (.castore, nx, r1, r2, r3, ps, cst)) (hS : am_S0 n a = some (.inl (.char, true, m, f))) (hi : am_ix j m = some k) (hx : am_iok .char x = true) (K : am_w d rt cd nx L st (am_hp n (am_up μ a k x) ν) Q) : am_w d rt cd pc L (.int x :: .int j :: .ref a :: st) (am_hp n μ ν) Q := by
  refine am_w1 hE ?_ K
  simp only [am_step, am_ast, am_hp, hS, if_true, hi, hx]
  rfl
theorem am_q_zast {a m k : Nat} {f : Nat → Option Nat} {j x : Int32} (hE : cd pc = some (.bastore, nx, r1, r2, r3, ps, cst)) (hS : am_S0 n a = some (.inl (.boolean, true, m, f))) (hi : am_ix j m = some k) (hx : am_iok .boolean x = true) (K : am_w d rt cd nx L st (am_hp n (am_up μ a k x) ν) Q) : am_w d rt cd pc L (.int x :: .int j :: .ref a :: st) (am_hp n μ ν) Q := by
  refine am_w1 hE ?_ K
  simp only [am_step, am_ast, am_hp, hS, if_true, hi, hx]
  rfl
theorem am_q_last {a m k : Nat} {f : Nat → Option Nat} {j : Int32} {x : Int64} (hE : cd pc = some (.lastore, nx, r1, r2, r3, ps, cst)) (hS : am_S0 n a = some (.inl (.long, true, m, f))) (hi : am_ix j m = some k) (K : am_w d rt cd nx L st (am_hp n μ (am_upL ν a k x)) Q) : am_w d rt cd pc L (.long x :: .int j :: .ref a :: st) (am_hp n μ ν) Q := by
  refine am_w1 hE ?_ K
  simp only [am_step, am_astL, am_hp, hS, hi]
  rfl
/-- a call, by what is known of the callee's run -/
theorem am_q_call {E : am_I} {k : Nat} {vs rest : List Value} {v : Option Value} {h' : am_H} {nx : Nat} {S2 : List Value} (hE : cd pc = some E) (hs : am_step (am_run d) rt pc E L st h = (match am_run d k vs h with
    | some (v, h') => am_n nx L (v.toList ++ rest) h'
    | none => none)) (hr : am_run d k vs h = some (v, h')) (h2 : v.toList ++ rest = S2) (K : am_w d rt cd nx L S2 h' Q) : am_w d rt cd pc L st h Q := by
  subst h2
  refine am_w1 hE ?_ K
  rw [hs, hr]
  rfl
theorem am_q_tsw {dd lo hi : Int} {offs : Array Int} {x : Int32} {t : Nat} (hE : cd pc = some (.tableswitch dd lo hi offs, nx, r1, r2, r3, ps, cst)) (ht : am_tsw pc dd lo hi offs.toList x = some t) (K : am_w d rt cd t L st h Q) : am_w d rt cd pc L (.int x :: st) h Q := by
  refine am_w1 hE ?_ K
  simp only [am_step, ht, am_jmp]
  rfl
theorem am_q_lsw {dd : Int} {offs : Array (Int × Int)} {x : Int32} {t : Nat} (hE : cd pc = some (.lookupswitch dd offs, nx, r1, r2, r3, ps, cst)) (ht : am_lsw pc dd offs.toList x = some t) (K : am_w d rt cd t L st h Q) : am_w d rt cd pc L (.int x :: st) h Q := by
  refine am_w1 hE ?_ K
  simp only [am_step, ht, am_jmp]
  rfl
theorem am_q_ireturn {x : Int32} {ty : FieldType} (hE : cd pc = some (.ireturn, nx, r1, r2, r3, ps, cst)) (hr : rt = some ty) (hx : am_iok ty x = true) (K : Q (some (.int x), h)) : am_w d rt cd pc L [.int x] h Q := by
  subst hr
  exact am_wr hE (by simp only [am_step, if_pos hx]) K
theorem am_q_lreturn {x : Int64} (hE : cd pc = some (.lreturn, nx, r1, r2, r3, ps, cst)) (hr : rt = some .long) (K : Q (some (.long x), h)) : am_w d rt cd pc L [.long x] h Q := by
  subst hr
  exact am_wr hE rfl K
theorem am_q_return (hE : cd pc = some (.return_, nx, r1, r2, r3, ps, cst)) (hr : rt = none) (K : Q (none, h)) : am_w d rt cd pc L [] h Q := by
  subst hr
  exact am_wr hE rfl K
theorem am_ix_nI {k m : Nat} (h : k < m) (hm : m < 2 ^ 31) : am_ix (nI k) m = some k := by
  unfold am_ix
  rw [if_pos (nI_in h hm), nI_clamp (Nat.lt_trans h hm)]
end AMQ
