section AMS
variable {p : Program} {l : Launch} {e : Env} {R : Room} {s : State} {m : MethodId} {args : Array Value} {below : List Frame} {meth : Method} {c : Code} {Q : State → Prop}
variable {G : am_G} {cc : ByteArray} {nL oc n0 s0 : Nat} {c0 : Nat × Nat} {ini : Bool}
/-- what holds of a method's body all along -/
def am_ctx (p : Program) (s : State) (m : MethodId) (args : Array Value) (meth : Method) (c : Code) (G : am_G) (cc : ByteArray) (nL oc : Nat) (ini : Bool) : Prop :=
  p.tables.exec = Jvm.exec ∧ c.code = cc ∧ c.maxLocals = nL ∧ s.vm.findClass (am_own oc) = some m.cls ∧ (∀ w ∈ am_gw, w.before args s = true) ∧ am_K G s ∧ am_ok G ∧ am_base G ≤ s.heap.size ∧ (ini = true → meth.name = "<init>")
/-- from this point of the small machine the walk comes to Q -/
def am_gd (p : Program) (l : Launch) (e : Env) (R : Room) (s : State) (m : MethodId) (args : Array Value) (below : List Frame) (meth : Method) (c : Code) (Q : State → Prop) (G : am_G) (nL n0 s0 : Nat) (c0 : Nat × Nat) (pc : Nat) (L : am_L) (st : List Value) (h : am_H) : Prop :=
  ∀ (H : Heap) (locs : List Loc) (ls : Array Slot), am_rel G h s H → am_lok G.1 ls nL L → va_S (am_A G) s.heap H locs → W p l e R s m args below meth c H locs (c0.1 + (h.1 - n0)) (c0.2 + (h.2.1 - s0)) Q (F0 m pc ls (st.map (am_rv G.1)))
variable {pc nx pc' : Nat} {L L' : am_L} {st st' : List Value} {h h' : am_H}
theorem am_S_iconst (C : am_ctx p s m args meth c G cc nL oc ini) {n : Int} {cst : Value} (hc : cst = .int (Int32.ofInt n)) (hd : decode cc pc = .ok (.iconst n, 1)) (hn : nx = pc + 1) (hs : am_n nx L (cst :: st) h = some (.inl (pc', L', st', h'))) (K : am_gd p l e R s m args below meth c Q G nL n0 s0 c0 pc' L' st' h') : am_gd p l e R s m args below meth c Q G nL n0 s0 c0 pc L st h := by
  obtain ⟨hx, hb, -⟩ := C
  subst hn
  subst hc
  cases hs
  intro H locs ls hr hl hS
  exact lv_iconst hx hb hd rfl (K H locs ls hr hl hS)
theorem am_S_bipush (C : am_ctx p s m args meth c G cc nL oc ini) {n : Int} {cst : Value} (hc : cst = .int (Int8.ofInt n).toInt32) (hd : decode cc pc = .ok (.bipush n, 2)) (hn : nx = pc + 2) (hs : am_n nx L (cst :: st) h = some (.inl (pc', L', st', h'))) (K : am_gd p l e R s m args below meth c Q G nL n0 s0 c0 pc' L' st' h') : am_gd p l e R s m args below meth c Q G nL n0 s0 c0 pc L st h := by
  obtain ⟨hx, hb, -⟩ := C
  subst hn
  subst hc
  cases hs
  intro H locs ls hr hl hS
  exact lv_bipush hx hb hd rfl (K H locs ls hr hl hS)
theorem am_S_sipush (C : am_ctx p s m args meth c G cc nL oc ini) {n : Int} {cst : Value} (hc : cst = .int (Int16.ofInt n).toInt32) (hd : decode cc pc = .ok (.sipush n, 3)) (hn : nx = pc + 3) (hs : am_n nx L (cst :: st) h = some (.inl (pc', L', st', h'))) (K : am_gd p l e R s m args below meth c Q G nL n0 s0 c0 pc' L' st' h') : am_gd p l e R s m args below meth c Q G nL n0 s0 c0 pc L st h := by
  obtain ⟨hx, hb, -⟩ := C
  subst hn
  subst hc
  cases hs
  intro H locs ls hr hl hS
  exact lv_sipush hx hb hd rfl (K H locs ls hr hl hS)
theorem am_S_lconst (C : am_ctx p s m args meth c G cc nL oc ini) {n : Fin 2} {cst : Value} (hc : cst = .long (Int64.ofNat (n : Nat))) (hd : decode cc pc = .ok (.lconst n, 1)) (hn : nx = pc + 1) (hs : am_n nx L (cst :: st) h = some (.inl (pc', L', st', h'))) (K : am_gd p l e R s m args below meth c Q G nL n0 s0 c0 pc' L' st' h') : am_gd p l e R s m args below meth c Q G nL n0 s0 c0 pc L st h := by
  obtain ⟨hx, hb, -⟩ := C
  subst hn
  subst hc
  cases hs
  intro H locs ls hr hl hS
  exact lv_lconst hx hb hd rfl (K H locs ls hr hl hS)
theorem am_S_ldc (C : am_ctx p s m args meth c G cc nL oc ini) {i : Nat} {v : Int32} (hw : Cond.constant (am_own oc) i v ∈ am_gw) (hd : decode cc pc = .ok (.ldc i, 2)) (hn : nx = pc + 2) (hs : am_n nx L (.int v :: st) h = some (.inl (pc', L', st', h'))) (K : am_gd p l e R s m args below meth c Q G nL n0 s0 c0 pc' L' st' h') : am_gd p l e R s m args below meth c Q G nL n0 s0 c0 pc L st h := by
  obtain ⟨hx, hb, -, hown, hts, -⟩ := C
  subst hn
  cases hs
  intro H locs ls hr hl hS
  exact lv_ldc hx hb hown (hts _ hw) hd (K H locs ls hr hl hS)
theorem am_S_ldc_w (C : am_ctx p s m args meth c G cc nL oc ini) {i : Nat} {v : Int32} (hw : Cond.constant (am_own oc) i v ∈ am_gw) (hd : decode cc pc = .ok (.ldc_w i, 3)) (hn : nx = pc + 3) (hs : am_n nx L (.int v :: st) h = some (.inl (pc', L', st', h'))) (K : am_gd p l e R s m args below meth c Q G nL n0 s0 c0 pc' L' st' h') : am_gd p l e R s m args below meth c Q G nL n0 s0 c0 pc L st h := by
  obtain ⟨hx, hb, -, hown, hts, -⟩ := C
  subst hn
  cases hs
  intro H locs ls hr hl hS
  exact lv_ldcw hx hb hown (hts _ hw) hd (K H locs ls hr hl hS)
theorem am_S_ldc2_w (C : am_ctx p s m args meth c G cc nL oc ini) {i : Nat} {v : Int64} (hw : Cond.constantLong (am_own oc) i v ∈ am_gw) (hd : decode cc pc = .ok (.ldc2_w i, 3)) (hn : nx = pc + 3) (hs : am_n nx L (.long v :: st) h = some (.inl (pc', L', st', h'))) (K : am_gd p l e R s m args below meth c Q G nL n0 s0 c0 pc' L' st' h') : am_gd p l e R s m args below meth c Q G nL n0 s0 c0 pc L st h := by
  obtain ⟨hx, hb, -, hown, hts, -⟩ := C
  subst hn
  cases hs
  intro H locs ls hr hl hS
  exact lv_ldc2 hx hb hown (hts _ hw) hd (K H locs ls hr hl hS)
theorem am_S_iload (C : am_ctx p s m args meth c G cc nL oc ini) {i : Nat} (hd : decode cc pc = .ok (.iload i, 2)) (hn : nx = pc + 2) (hs : am_li L i nx st h = some (.inl (pc', L', st', h'))) (K : am_gd p l e R s m args below meth c Q G nL n0 s0 c0 pc' L' st' h') : am_gd p l e R s m args below meth c Q G nL n0 s0 c0 pc L st h := by
  obtain ⟨hx, hb, -⟩ := C
  subst hn
  unfold am_li at hs
  split at hs
  · rename_i x hx1
    cases hs
    intro H locs ls hr hl hS
    exact lv_iload hx hb hd (hl.2.2.2 _ _ hx1) (K H locs ls hr hl hS)
  · cases hs
theorem am_S_iload_n (C : am_ctx p s m args meth c G cc nL oc ini) {i : Fin 4} (hd : decode cc pc = .ok (.iload_n i, 1)) (hn : nx = pc + 1) (hs : am_li L i.val nx st h = some (.inl (pc', L', st', h'))) (K : am_gd p l e R s m args below meth c Q G nL n0 s0 c0 pc' L' st' h') : am_gd p l e R s m args below meth c Q G nL n0 s0 c0 pc L st h := by
  obtain ⟨hx, hb, -⟩ := C
  subst hn
  unfold am_li at hs
  split at hs
  · rename_i x hx1
    cases hs
    intro H locs ls hr hl hS
    exact lv_iload_n hx hb hd rfl (hl.2.2.2 _ _ hx1) (K H locs ls hr hl hS)
  · cases hs
theorem am_S_lload (C : am_ctx p s m args meth c G cc nL oc ini) {i : Nat} (hd : decode cc pc = .ok (.lload i, 2)) (hn : nx = pc + 2) (hs : am_ll L i nx st h = some (.inl (pc', L', st', h'))) (K : am_gd p l e R s m args below meth c Q G nL n0 s0 c0 pc' L' st' h') : am_gd p l e R s m args below meth c Q G nL n0 s0 c0 pc L st h := by
  obtain ⟨hx, hb, -⟩ := C
  subst hn
  unfold am_ll at hs
  split at hs
  · rename_i x hx1
    cases hs
    intro H locs ls hr hl hS
    exact lv_lload hx hb hd (hl.2.2.2 _ _ hx1) (K H locs ls hr hl hS)
  · cases hs
theorem am_S_lload_n (C : am_ctx p s m args meth c G cc nL oc ini) {i : Fin 4} (hd : decode cc pc = .ok (.lload_n i, 1)) (hn : nx = pc + 1) (hs : am_ll L i.val nx st h = some (.inl (pc', L', st', h'))) (K : am_gd p l e R s m args below meth c Q G nL n0 s0 c0 pc' L' st' h') : am_gd p l e R s m args below meth c Q G nL n0 s0 c0 pc L st h := by
  obtain ⟨hx, hb, -⟩ := C
  subst hn
  unfold am_ll at hs
  split at hs
  · rename_i x hx1
    cases hs
    intro H locs ls hr hl hS
    exact lv_lload_n hx hb hd rfl (hl.2.2.2 _ _ hx1) (K H locs ls hr hl hS)
  · cases hs
theorem am_S_aload (C : am_ctx p s m args meth c G cc nL oc ini) {i : Nat} (hd : decode cc pc = .ok (.aload i, 2)) (hn : nx = pc + 2) (hs : am_la L i nx st h = some (.inl (pc', L', st', h'))) (K : am_gd p l e R s m args below meth c Q G nL n0 s0 c0 pc' L' st' h') : am_gd p l e R s m args below meth c Q G nL n0 s0 c0 pc L st h := by
  obtain ⟨hx, hb, -⟩ := C
  subst hn
  unfold am_la at hs
  split at hs
  · rename_i x hx1
    cases hs
    intro H locs ls hr hl hS
    exact lv_aload hx hb hd (hl.2.2.2 _ _ hx1) (K H locs ls hr hl hS)
  · cases hs
theorem am_S_aload_n (C : am_ctx p s m args meth c G cc nL oc ini) {i : Fin 4} (hd : decode cc pc = .ok (.aload_n i, 1)) (hn : nx = pc + 1) (hs : am_la L i.val nx st h = some (.inl (pc', L', st', h'))) (K : am_gd p l e R s m args below meth c Q G nL n0 s0 c0 pc' L' st' h') : am_gd p l e R s m args below meth c Q G nL n0 s0 c0 pc L st h := by
  obtain ⟨hx, hb, -⟩ := C
  subst hn
  unfold am_la at hs
  split at hs
  · rename_i x hx1
    cases hs
    intro H locs ls hr hl hS
    exact lv_aload_n hx hb hd rfl (hl.2.2.2 _ _ hx1) (K H locs ls hr hl hS)
  · cases hs
theorem am_S_istore (C : am_ctx p s m args meth c G cc nL oc ini) {i : Nat} (hd : decode cc pc = .ok (.istore i, 2)) (hn : nx = pc + 2) (hs : am_si L i nx st h = some (.inl (pc', L', st', h'))) (K : am_gd p l e R s m args below meth c Q G nL n0 s0 c0 pc' L' st' h') : am_gd p l e R s m args below meth c Q G nL n0 s0 c0 pc L st h := by
  obtain ⟨hx, hb, -⟩ := C
  subst hn
  unfold am_si at hs
  split at hs
  · rename_i x r
    split at hs
    · rename_i hi
      cases hs
      intro H locs ls hr hl hS
      have hi : i < nL := by rw [← hl.1]; exact hi
      exact lv_istore hx hb hd (am_lok_has hl) hi rfl fun ls1 hl1 => K H locs ls1 hr (am_lok_s1 hl.1 hi hl1) hS
    · cases hs
  · cases hs
theorem am_S_istore_n (C : am_ctx p s m args meth c G cc nL oc ini) {i : Fin 4} (hd : decode cc pc = .ok (.istore_n i, 1)) (hn : nx = pc + 1) (hs : am_si L i.val nx st h = some (.inl (pc', L', st', h'))) (K : am_gd p l e R s m args below meth c Q G nL n0 s0 c0 pc' L' st' h') : am_gd p l e R s m args below meth c Q G nL n0 s0 c0 pc L st h := by
  obtain ⟨hx, hb, -⟩ := C
  subst hn
  unfold am_si at hs
  split at hs
  · rename_i x r
    split at hs
    · rename_i hi
      cases hs
      intro H locs ls hr hl hS
      have hi : i.val < nL := by rw [← hl.1]; exact hi
      exact lv_istore_n hx hb hd rfl (am_lok_has hl) hi rfl fun ls1 hl1 => K H locs ls1 hr (am_lok_s1 hl.1 hi hl1) hS
    · cases hs
  · cases hs
theorem am_S_lstore (C : am_ctx p s m args meth c G cc nL oc ini) {i : Nat} (hd : decode cc pc = .ok (.lstore i, 2)) (hn : nx = pc + 2) (hs : am_sl L i nx st h = some (.inl (pc', L', st', h'))) (K : am_gd p l e R s m args below meth c Q G nL n0 s0 c0 pc' L' st' h') : am_gd p l e R s m args below meth c Q G nL n0 s0 c0 pc L st h := by
  obtain ⟨hx, hb, -⟩ := C
  subst hn
  unfold am_sl at hs
  split at hs
  · rename_i x r
    split at hs
    · rename_i hi
      cases hs
      intro H locs ls hr hl hS
      have hi : i + 1 < nL := by rw [← hl.1]; exact hi
      exact lv_lstore hx hb hd (am_lok_has hl) hi rfl fun ls1 hl1 => K H locs ls1 hr (am_lok_s2 hl.1 hi hl1) hS
    · cases hs
  · cases hs
theorem am_S_lstore_n (C : am_ctx p s m args meth c G cc nL oc ini) {i : Fin 4} (hd : decode cc pc = .ok (.lstore_n i, 1)) (hn : nx = pc + 1) (hs : am_sl L i.val nx st h = some (.inl (pc', L', st', h'))) (K : am_gd p l e R s m args below meth c Q G nL n0 s0 c0 pc' L' st' h') : am_gd p l e R s m args below meth c Q G nL n0 s0 c0 pc L st h := by
  obtain ⟨hx, hb, -⟩ := C
  subst hn
  unfold am_sl at hs
  split at hs
  · rename_i x r
    split at hs
    · rename_i hi
      cases hs
      intro H locs ls hr hl hS
      have hi : i.val + 1 < nL := by rw [← hl.1]; exact hi
      exact lv_lstore_n hx hb hd rfl (am_lok_has hl) hi rfl fun ls1 hl1 => K H locs ls1 hr (am_lok_s2 hl.1 hi hl1) hS
    · cases hs
  · cases hs
theorem am_S_astore (C : am_ctx p s m args meth c G cc nL oc ini) {i : Nat} (hd : decode cc pc = .ok (.astore i, 2)) (hn : nx = pc + 2) (hs : am_sa L i nx st h = some (.inl (pc', L', st', h'))) (K : am_gd p l e R s m args below meth c Q G nL n0 s0 c0 pc' L' st' h') : am_gd p l e R s m args below meth c Q G nL n0 s0 c0 pc L st h := by
  obtain ⟨hx, hb, -⟩ := C
  subst hn
  unfold am_sa at hs
  split at hs
  · rename_i x r
    split at hs
    · rename_i hi
      cases hs
      intro H locs ls hr hl hS
      have hi : i < nL := by rw [← hl.1]; exact hi
      exact lv_astore hx hb hd (am_lok_has hl) hi rfl fun ls1 hl1 => K H locs ls1 hr (am_lok_s1 hl.1 hi hl1) hS
    · cases hs
  · cases hs
theorem am_S_astore_n (C : am_ctx p s m args meth c G cc nL oc ini) {i : Fin 4} (hd : decode cc pc = .ok (.astore_n i, 1)) (hn : nx = pc + 1) (hs : am_sa L i.val nx st h = some (.inl (pc', L', st', h'))) (K : am_gd p l e R s m args below meth c Q G nL n0 s0 c0 pc' L' st' h') : am_gd p l e R s m args below meth c Q G nL n0 s0 c0 pc L st h := by
  obtain ⟨hx, hb, -⟩ := C
  subst hn
  unfold am_sa at hs
  split at hs
  · rename_i x r
    split at hs
    · rename_i hi
      cases hs
      intro H locs ls hr hl hS
      have hi : i.val < nL := by rw [← hl.1]; exact hi
      exact lv_astore_n hx hb hd rfl (am_lok_has hl) hi rfl fun ls1 hl1 => K H locs ls1 hr (am_lok_s1 hl.1 hi hl1) hS
    · cases hs
  · cases hs
theorem am_S_iinc (C : am_ctx p s m args meth c G cc nL oc ini) {i : Nat} {n : Int} {cst : Value} (hc : cst = .int (Int32.ofInt n)) (hd : decode cc pc = .ok (.iinc i n, 3)) (hn : nx = pc + 3) (hs : (match cst, L[i]? with
      | .int c, some (some (.int x)) => if i < L.length then am_n nx (am_s1 L i (.int (x + c))) st h else none
      | _, _ => none) = some (.inl (pc', L', st', h'))) (K : am_gd p l e R s m args below meth c Q G nL n0 s0 c0 pc' L' st' h') : am_gd p l e R s m args below meth c Q G nL n0 s0 c0 pc L st h := by
  obtain ⟨hx, hb, -⟩ := C
  subst hn
  subst hc
  split at hs
  · rename_i cv x hcv hx1
    split at hs
    · rename_i hi
      cases hs
      cases hcv
      intro H locs ls hr hl hS
      have hi : i < nL := by rw [← hl.1]; exact hi
      obtain ⟨k, hk⟩ := List.getElem?_of_mem (am_prs_in (ρ := G.1) hx1)
      exact lv_iinc hx hb hd (am_lok_has hl) hk rfl hi rfl fun ls1 hl1 => K H locs ls1 hr (am_lok_s1 hl.1 hi hl1) hS
    · cases hs
  · cases hs
theorem am_S_iadd (C : am_ctx p s m args meth c G cc nL oc ini) (hd : decode cc pc = .ok (.iadd, 1)) (hn : nx = pc + 1) (hs : am_i2 (fun x y => x + y) L nx st h = some (.inl (pc', L', st', h'))) (K : am_gd p l e R s m args below meth c Q G nL n0 s0 c0 pc' L' st' h') : am_gd p l e R s m args below meth c Q G nL n0 s0 c0 pc L st h := by
  obtain ⟨hx, hb, -⟩ := C
  subst hn
  unfold am_i2 at hs
  split at hs
  · cases hs
    intro H locs ls hr hl hS
    exact lv_iadd hx hb hd (K H locs ls hr hl hS)
  · cases hs
theorem am_S_isub (C : am_ctx p s m args meth c G cc nL oc ini) (hd : decode cc pc = .ok (.isub, 1)) (hn : nx = pc + 1) (hs : am_i2 (fun x y => x - y) L nx st h = some (.inl (pc', L', st', h'))) (K : am_gd p l e R s m args below meth c Q G nL n0 s0 c0 pc' L' st' h') : am_gd p l e R s m args below meth c Q G nL n0 s0 c0 pc L st h := by
  obtain ⟨hx, hb, -⟩ := C
  subst hn
  unfold am_i2 at hs
  split at hs
  · cases hs
    intro H locs ls hr hl hS
    exact lv_isub hx hb hd (K H locs ls hr hl hS)
  · cases hs
theorem am_S_imul (C : am_ctx p s m args meth c G cc nL oc ini) (hd : decode cc pc = .ok (.imul, 1)) (hn : nx = pc + 1) (hs : am_i2 (fun x y => x * y) L nx st h = some (.inl (pc', L', st', h'))) (K : am_gd p l e R s m args below meth c Q G nL n0 s0 c0 pc' L' st' h') : am_gd p l e R s m args below meth c Q G nL n0 s0 c0 pc L st h := by
  obtain ⟨hx, hb, -⟩ := C
  subst hn
  unfold am_i2 at hs
  split at hs
  · cases hs
    intro H locs ls hr hl hS
    exact lv_imul hx hb hd (K H locs ls hr hl hS)
  · cases hs
theorem am_S_iand (C : am_ctx p s m args meth c G cc nL oc ini) (hd : decode cc pc = .ok (.iand, 1)) (hn : nx = pc + 1) (hs : am_i2 (fun x y => x &&& y) L nx st h = some (.inl (pc', L', st', h'))) (K : am_gd p l e R s m args below meth c Q G nL n0 s0 c0 pc' L' st' h') : am_gd p l e R s m args below meth c Q G nL n0 s0 c0 pc L st h := by
  obtain ⟨hx, hb, -⟩ := C
  subst hn
  unfold am_i2 at hs
  split at hs
  · cases hs
    intro H locs ls hr hl hS
    exact lv_iand hx hb hd (K H locs ls hr hl hS)
  · cases hs
theorem am_S_ior (C : am_ctx p s m args meth c G cc nL oc ini) (hd : decode cc pc = .ok (.ior, 1)) (hn : nx = pc + 1) (hs : am_i2 (fun x y => x ||| y) L nx st h = some (.inl (pc', L', st', h'))) (K : am_gd p l e R s m args below meth c Q G nL n0 s0 c0 pc' L' st' h') : am_gd p l e R s m args below meth c Q G nL n0 s0 c0 pc L st h := by
  obtain ⟨hx, hb, -⟩ := C
  subst hn
  unfold am_i2 at hs
  split at hs
  · cases hs
    intro H locs ls hr hl hS
    exact lv_ior hx hb hd (K H locs ls hr hl hS)
  · cases hs
theorem am_S_ixor (C : am_ctx p s m args meth c G cc nL oc ini) (hd : decode cc pc = .ok (.ixor, 1)) (hn : nx = pc + 1) (hs : am_i2 (fun x y => x ^^^ y) L nx st h = some (.inl (pc', L', st', h'))) (K : am_gd p l e R s m args below meth c Q G nL n0 s0 c0 pc' L' st' h') : am_gd p l e R s m args below meth c Q G nL n0 s0 c0 pc L st h := by
  obtain ⟨hx, hb, -⟩ := C
  subst hn
  unfold am_i2 at hs
  split at hs
  · cases hs
    intro H locs ls hr hl hS
    exact lv_ixor hx hb hd (K H locs ls hr hl hS)
  · cases hs
theorem am_S_ishl (C : am_ctx p s m args meth c G cc nL oc ini) (hd : decode cc pc = .ok (.ishl, 1)) (hn : nx = pc + 1) (hs : am_i2 (fun x y => x <<< (y &&& 31)) L nx st h = some (.inl (pc', L', st', h'))) (K : am_gd p l e R s m args below meth c Q G nL n0 s0 c0 pc' L' st' h') : am_gd p l e R s m args below meth c Q G nL n0 s0 c0 pc L st h := by
  obtain ⟨hx, hb, -⟩ := C
  subst hn
  unfold am_i2 at hs
  split at hs
  · cases hs
    intro H locs ls hr hl hS
    exact lv_ishl hx hb hd (K H locs ls hr hl hS)
  · cases hs
theorem am_S_ishr (C : am_ctx p s m args meth c G cc nL oc ini) (hd : decode cc pc = .ok (.ishr, 1)) (hn : nx = pc + 1) (hs : am_i2 (fun x y => x >>> (y &&& 31)) L nx st h = some (.inl (pc', L', st', h'))) (K : am_gd p l e R s m args below meth c Q G nL n0 s0 c0 pc' L' st' h') : am_gd p l e R s m args below meth c Q G nL n0 s0 c0 pc L st h := by
  obtain ⟨hx, hb, -⟩ := C
  subst hn
  unfold am_i2 at hs
  split at hs
  · cases hs
    intro H locs ls hr hl hS
    exact lv_ishr hx hb hd (K H locs ls hr hl hS)
  · cases hs
theorem am_S_iushr (C : am_ctx p s m args meth c G cc nL oc ini) (hd : decode cc pc = .ok (.iushr, 1)) (hn : nx = pc + 1) (hs : am_i2 (fun x y => (x.toUInt32 >>> (y.toUInt32 &&& Int32.toUInt32 31)).toInt32) L nx st h = some (.inl (pc', L', st', h'))) (K : am_gd p l e R s m args below meth c Q G nL n0 s0 c0 pc' L' st' h') : am_gd p l e R s m args below meth c Q G nL n0 s0 c0 pc L st h := by
  obtain ⟨hx, hb, -⟩ := C
  subst hn
  unfold am_i2 at hs
  split at hs
  · cases hs
    intro H locs ls hr hl hS
    exact lv_iushr hx hb hd rfl (K H locs ls hr hl hS)
  · cases hs
theorem am_S_ladd (C : am_ctx p s m args meth c G cc nL oc ini) (hd : decode cc pc = .ok (.ladd, 1)) (hn : nx = pc + 1) (hs : am_l2 (fun x y => x + y) L nx st h = some (.inl (pc', L', st', h'))) (K : am_gd p l e R s m args below meth c Q G nL n0 s0 c0 pc' L' st' h') : am_gd p l e R s m args below meth c Q G nL n0 s0 c0 pc L st h := by
  obtain ⟨hx, hb, -⟩ := C
  subst hn
  unfold am_l2 at hs
  split at hs
  · cases hs
    intro H locs ls hr hl hS
    exact lv_ladd hx hb hd (K H locs ls hr hl hS)
  · cases hs
theorem am_S_lsub (C : am_ctx p s m args meth c G cc nL oc ini) (hd : decode cc pc = .ok (.lsub, 1)) (hn : nx = pc + 1) (hs : am_l2 (fun x y => x - y) L nx st h = some (.inl (pc', L', st', h'))) (K : am_gd p l e R s m args below meth c Q G nL n0 s0 c0 pc' L' st' h') : am_gd p l e R s m args below meth c Q G nL n0 s0 c0 pc L st h := by
  obtain ⟨hx, hb, -⟩ := C
  subst hn
  unfold am_l2 at hs
  split at hs
  · cases hs
    intro H locs ls hr hl hS
    exact lv_lsub hx hb hd (K H locs ls hr hl hS)
  · cases hs
theorem am_S_lmul (C : am_ctx p s m args meth c G cc nL oc ini) (hd : decode cc pc = .ok (.lmul, 1)) (hn : nx = pc + 1) (hs : am_l2 (fun x y => x * y) L nx st h = some (.inl (pc', L', st', h'))) (K : am_gd p l e R s m args below meth c Q G nL n0 s0 c0 pc' L' st' h') : am_gd p l e R s m args below meth c Q G nL n0 s0 c0 pc L st h := by
  obtain ⟨hx, hb, -⟩ := C
  subst hn
  unfold am_l2 at hs
  split at hs
  · cases hs
    intro H locs ls hr hl hS
    exact lv_lmul hx hb hd (K H locs ls hr hl hS)
  · cases hs
theorem am_S_land (C : am_ctx p s m args meth c G cc nL oc ini) (hd : decode cc pc = .ok (.land, 1)) (hn : nx = pc + 1) (hs : am_l2 (fun x y => x &&& y) L nx st h = some (.inl (pc', L', st', h'))) (K : am_gd p l e R s m args below meth c Q G nL n0 s0 c0 pc' L' st' h') : am_gd p l e R s m args below meth c Q G nL n0 s0 c0 pc L st h := by
  obtain ⟨hx, hb, -⟩ := C
  subst hn
  unfold am_l2 at hs
  split at hs
  · cases hs
    intro H locs ls hr hl hS
    exact lv_land hx hb hd (K H locs ls hr hl hS)
  · cases hs
theorem am_S_lor (C : am_ctx p s m args meth c G cc nL oc ini) (hd : decode cc pc = .ok (.lor, 1)) (hn : nx = pc + 1) (hs : am_l2 (fun x y => x ||| y) L nx st h = some (.inl (pc', L', st', h'))) (K : am_gd p l e R s m args below meth c Q G nL n0 s0 c0 pc' L' st' h') : am_gd p l e R s m args below meth c Q G nL n0 s0 c0 pc L st h := by
  obtain ⟨hx, hb, -⟩ := C
  subst hn
  unfold am_l2 at hs
  split at hs
  · cases hs
    intro H locs ls hr hl hS
    exact lv_lor hx hb hd (K H locs ls hr hl hS)
  · cases hs
theorem am_S_lxor (C : am_ctx p s m args meth c G cc nL oc ini) (hd : decode cc pc = .ok (.lxor, 1)) (hn : nx = pc + 1) (hs : am_l2 (fun x y => x ^^^ y) L nx st h = some (.inl (pc', L', st', h'))) (K : am_gd p l e R s m args below meth c Q G nL n0 s0 c0 pc' L' st' h') : am_gd p l e R s m args below meth c Q G nL n0 s0 c0 pc L st h := by
  obtain ⟨hx, hb, -⟩ := C
  subst hn
  unfold am_l2 at hs
  split at hs
  · cases hs
    intro H locs ls hr hl hS
    exact lv_lxor hx hb hd (K H locs ls hr hl hS)
  · cases hs
theorem am_S_lshl (C : am_ctx p s m args meth c G cc nL oc ini) (hd : decode cc pc = .ok (.lshl, 1)) (hn : nx = pc + 1) (hs : am_l3 (fun x y => x <<< (y.toInt64 &&& 63)) L nx st h = some (.inl (pc', L', st', h'))) (K : am_gd p l e R s m args below meth c Q G nL n0 s0 c0 pc' L' st' h') : am_gd p l e R s m args below meth c Q G nL n0 s0 c0 pc L st h := by
  obtain ⟨hx, hb, -⟩ := C
  subst hn
  unfold am_l3 at hs
  split at hs
  · cases hs
    intro H locs ls hr hl hS
    exact lv_lshl hx hb hd rfl (K H locs ls hr hl hS)
  · cases hs
theorem am_S_lshr (C : am_ctx p s m args meth c G cc nL oc ini) (hd : decode cc pc = .ok (.lshr, 1)) (hn : nx = pc + 1) (hs : am_l3 (fun x y => x >>> (y.toInt64 &&& 63)) L nx st h = some (.inl (pc', L', st', h'))) (K : am_gd p l e R s m args below meth c Q G nL n0 s0 c0 pc' L' st' h') : am_gd p l e R s m args below meth c Q G nL n0 s0 c0 pc L st h := by
  obtain ⟨hx, hb, -⟩ := C
  subst hn
  unfold am_l3 at hs
  split at hs
  · cases hs
    intro H locs ls hr hl hS
    exact lv_lshr hx hb hd rfl (K H locs ls hr hl hS)
  · cases hs
theorem am_S_lushr (C : am_ctx p s m args meth c G cc nL oc ini) (hd : decode cc pc = .ok (.lushr, 1)) (hn : nx = pc + 1) (hs : am_l3 (fun x y => (x.toUInt64 >>> (y.toInt64.toUInt64 &&& Int64.toUInt64 63)).toInt64) L nx st h = some (.inl (pc', L', st', h'))) (K : am_gd p l e R s m args below meth c Q G nL n0 s0 c0 pc' L' st' h') : am_gd p l e R s m args below meth c Q G nL n0 s0 c0 pc L st h := by
  obtain ⟨hx, hb, -⟩ := C
  subst hn
  unfold am_l3 at hs
  split at hs
  · cases hs
    intro H locs ls hr hl hS
    exact lv_lushr hx hb hd rfl (K H locs ls hr hl hS)
  · cases hs
theorem am_S_idiv (C : am_ctx p s m args meth c G cc nL oc ini) (hd : decode cc pc = .ok (.idiv, 1)) (hn : nx = pc + 1) (hs : (match st with
      | .int y :: .int x :: r => if y = 0 then none else am_n nx L (.int (x / y) :: r) h
      | _ => none) = some (.inl (pc', L', st', h'))) (K : am_gd p l e R s m args below meth c Q G nL n0 s0 c0 pc' L' st' h') : am_gd p l e R s m args below meth c Q G nL n0 s0 c0 pc L st h := by
  obtain ⟨hx, hb, -⟩ := C
  subst hn
  split at hs
  · split at hs
    · cases hs
    · rename_i hy
      cases hs
      intro H locs ls hr hl hS
      exact lv_idiv hx hb hd hy (K H locs ls hr hl hS)
  · cases hs
theorem am_S_irem (C : am_ctx p s m args meth c G cc nL oc ini) (hd : decode cc pc = .ok (.irem, 1)) (hn : nx = pc + 1) (hs : (match st with
      | .int y :: .int x :: r => if y = 0 then none else am_n nx L (.int (x - x / y * y) :: r) h
      | _ => none) = some (.inl (pc', L', st', h'))) (K : am_gd p l e R s m args below meth c Q G nL n0 s0 c0 pc' L' st' h') : am_gd p l e R s m args below meth c Q G nL n0 s0 c0 pc L st h := by
  obtain ⟨hx, hb, -⟩ := C
  subst hn
  split at hs
  · split at hs
    · cases hs
    · rename_i hy
      cases hs
      intro H locs ls hr hl hS
      exact lv_irem hx hb hd hy (K H locs ls hr hl hS)
  · cases hs
theorem am_S_ldiv (C : am_ctx p s m args meth c G cc nL oc ini) (hd : decode cc pc = .ok (.ldiv, 1)) (hn : nx = pc + 1) (hs : (match st with
      | .long y :: .long x :: r => if y = 0 then none else am_n nx L (.long (x / y) :: r) h
      | _ => none) = some (.inl (pc', L', st', h'))) (K : am_gd p l e R s m args below meth c Q G nL n0 s0 c0 pc' L' st' h') : am_gd p l e R s m args below meth c Q G nL n0 s0 c0 pc L st h := by
  obtain ⟨hx, hb, -⟩ := C
  subst hn
  split at hs
  · split at hs
    · cases hs
    · rename_i hy
      cases hs
      intro H locs ls hr hl hS
      exact lv_ldiv hx hb hd hy (K H locs ls hr hl hS)
  · cases hs
theorem am_S_lrem (C : am_ctx p s m args meth c G cc nL oc ini) (hd : decode cc pc = .ok (.lrem, 1)) (hn : nx = pc + 1) (hs : (match st with
      | .long y :: .long x :: r => if y = 0 then none else am_n nx L (.long (x - x / y * y) :: r) h
      | _ => none) = some (.inl (pc', L', st', h'))) (K : am_gd p l e R s m args below meth c Q G nL n0 s0 c0 pc' L' st' h') : am_gd p l e R s m args below meth c Q G nL n0 s0 c0 pc L st h := by
  obtain ⟨hx, hb, -⟩ := C
  subst hn
  split at hs
  · split at hs
    · cases hs
    · rename_i hy
      cases hs
      intro H locs ls hr hl hS
      exact lv_lrem hx hb hd hy (K H locs ls hr hl hS)
  · cases hs
theorem am_S_ineg (C : am_ctx p s m args meth c G cc nL oc ini) (hd : decode cc pc = .ok (.ineg, 1)) (hn : nx = pc + 1) (hs : (match st with
      | .int x :: r => am_n nx L (.int (-x) :: r) h
      | _ => none) = some (.inl (pc', L', st', h'))) (K : am_gd p l e R s m args below meth c Q G nL n0 s0 c0 pc' L' st' h') : am_gd p l e R s m args below meth c Q G nL n0 s0 c0 pc L st h := by
  obtain ⟨hx, hb, -⟩ := C
  subst hn
  split at hs
  · cases hs
    intro H locs ls hr hl hS
    exact lv_ineg hx hb hd (K H locs ls hr hl hS)
  · cases hs
theorem am_S_i2l (C : am_ctx p s m args meth c G cc nL oc ini) (hd : decode cc pc = .ok (.i2l, 1)) (hn : nx = pc + 1) (hs : (match st with
      | .int x :: r => am_n nx L (.long x.toInt64 :: r) h
      | _ => none) = some (.inl (pc', L', st', h'))) (K : am_gd p l e R s m args below meth c Q G nL n0 s0 c0 pc' L' st' h') : am_gd p l e R s m args below meth c Q G nL n0 s0 c0 pc L st h := by
  obtain ⟨hx, hb, -⟩ := C
  subst hn
  split at hs
  · cases hs
    intro H locs ls hr hl hS
    exact lv_i2l hx hb hd rfl (K H locs ls hr hl hS)
  · cases hs
theorem am_S_l2i (C : am_ctx p s m args meth c G cc nL oc ini) (hd : decode cc pc = .ok (.l2i, 1)) (hn : nx = pc + 1) (hs : (match st with
      | .long x :: r => am_n nx L (.int x.toInt32 :: r) h
      | _ => none) = some (.inl (pc', L', st', h'))) (K : am_gd p l e R s m args below meth c Q G nL n0 s0 c0 pc' L' st' h') : am_gd p l e R s m args below meth c Q G nL n0 s0 c0 pc L st h := by
  obtain ⟨hx, hb, -⟩ := C
  subst hn
  split at hs
  · cases hs
    intro H locs ls hr hl hS
    exact lv_l2i hx hb hd rfl (K H locs ls hr hl hS)
  · cases hs
theorem am_S_i2c (C : am_ctx p s m args meth c G cc nL oc ini) (hd : decode cc pc = .ok (.i2c, 1)) (hn : nx = pc + 1) (hs : (match st with
      | .int x :: r => am_n nx L (.int (x.toUInt32 % 65536).toInt32 :: r) h
      | _ => none) = some (.inl (pc', L', st', h'))) (K : am_gd p l e R s m args below meth c Q G nL n0 s0 c0 pc' L' st' h') : am_gd p l e R s m args below meth c Q G nL n0 s0 c0 pc L st h := by
  obtain ⟨hx, hb, -⟩ := C
  subst hn
  split at hs
  · cases hs
    intro H locs ls hr hl hS
    exact lv_i2c hx hb hd rfl (K H locs ls hr hl hS)
  · cases hs
theorem am_S_lcmp (C : am_ctx p s m args meth c G cc nL oc ini) (hd : decode cc pc = .ok (.lcmp, 1)) (hn : nx = pc + 1) (hs : (match st with
      | .long y :: .long x :: r => am_n nx L (.int (lg_cmp x y) :: r) h
      | _ => none) = some (.inl (pc', L', st', h'))) (K : am_gd p l e R s m args below meth c Q G nL n0 s0 c0 pc' L' st' h') : am_gd p l e R s m args below meth c Q G nL n0 s0 c0 pc L st h := by
  obtain ⟨hx, hb, -⟩ := C
  subst hn
  split at hs
  · cases hs
    intro H locs ls hr hl hS
    exact W.lcmp hx hb hd (K H locs ls hr hl hS)
  · cases hs
theorem am_S_dup (C : am_ctx p s m args meth c G cc nL oc ini) (hd : decode cc pc = .ok (.dup, 1)) (hn : nx = pc + 1) (hs : (match st with
      | .int x :: r => am_n nx L (.int x :: .int x :: r) h
      | .ref x :: r => am_n nx L (.ref x :: .ref x :: r) h
      | _ => none) = some (.inl (pc', L', st', h'))) (K : am_gd p l e R s m args below meth c Q G nL n0 s0 c0 pc' L' st' h') : am_gd p l e R s m args below meth c Q G nL n0 s0 c0 pc L st h := by
  obtain ⟨hx, hb, -⟩ := C
  subst hn
  split at hs
  · cases hs
    intro H locs ls hr hl hS
    exact lv_dup hx hb hd rfl (K H locs ls hr hl hS)
  · cases hs
    intro H locs ls hr hl hS
    exact lv_dup hx hb hd rfl (K H locs ls hr hl hS)
  · cases hs
theorem am_S_dup2 (C : am_ctx p s m args meth c G cc nL oc ini) (hd : decode cc pc = .ok (.dup2, 1)) (hn : nx = pc + 1) (hs : (match st with
      | .int x :: .int y :: r => am_n nx L (.int x :: .int y :: .int x :: .int y :: r) h
      | .int x :: .ref y :: r => am_n nx L (.int x :: .ref y :: .int x :: .ref y :: r) h
      | _ => none) = some (.inl (pc', L', st', h'))) (K : am_gd p l e R s m args below meth c Q G nL n0 s0 c0 pc' L' st' h') : am_gd p l e R s m args below meth c Q G nL n0 s0 c0 pc L st h := by
  obtain ⟨hx, hb, -⟩ := C
  subst hn
  split at hs
  · cases hs
    intro H locs ls hr hl hS
    exact lv_dup2_11 hx hb hd rfl rfl (K H locs ls hr hl hS)
  · cases hs
    intro H locs ls hr hl hS
    exact lv_dup2_11 hx hb hd rfl rfl (K H locs ls hr hl hS)
  · cases hs
theorem am_S_pop (C : am_ctx p s m args meth c G cc nL oc ini) (hd : decode cc pc = .ok (.pop, 1)) (hn : nx = pc + 1) (hs : (match st with
      | .int _ :: r => am_n nx L r h
      | .ref _ :: r => am_n nx L r h
      | _ => none) = some (.inl (pc', L', st', h'))) (K : am_gd p l e R s m args below meth c Q G nL n0 s0 c0 pc' L' st' h') : am_gd p l e R s m args below meth c Q G nL n0 s0 c0 pc L st h := by
  obtain ⟨hx, hb, -⟩ := C
  subst hn
  split at hs
  · rename_i x r
    cases hs
    intro H locs ls hr hl hS
    exact lv_pop (va := .int x) hx hb hd rfl (K H locs ls hr hl hS)
  · rename_i x r
    cases hs
    intro H locs ls hr hl hS
    exact lv_pop (va := .ref (G.1 x)) hx hb hd rfl (K H locs ls hr hl hS)
  · cases hs
theorem am_S_ifCond (C : am_ctx p s m args meth c G cc nL oc ini) {q : ClassFile.Cond} {off : Int} {t : Nat} (ht : (pc : Int) + off = (t : Int)) (hd : decode cc pc = .ok (.ifCond q off, 3)) (hn : nx = pc + 3) (hs : am_c1 (fun x => am_q q x 0) L t nx st h = some (.inl (pc', L', st', h'))) (K : am_gd p l e R s m args below meth c Q G nL n0 s0 c0 pc' L' st' h') : am_gd p l e R s m args below meth c Q G nL n0 s0 c0 pc L st h := by
  obtain ⟨hx, hb, -⟩ := C
  subst hn
  unfold am_c1 at hs
  split at hs
  · cases hs
    intro H locs ls hr hl hS
    have K1 := K H locs ls hr hl hS
    cases q with
    | eq => exact lv_if_eq hx hb hd ht (fun z => by simpa only [am_q, z, decide_true, cond_true, not_false_eq_true, not_true_eq_false, decide_false, cond_false] using K1) (fun z => by simpa only [am_q, z, decide_false, cond_false, not_false_eq_true, not_true_eq_false, decide_true, cond_true] using K1)
    | ne => exact lv_if_ne hx hb hd ht (fun z => by simpa only [am_q, z, decide_true, cond_true, not_false_eq_true, not_true_eq_false, decide_false, cond_false] using K1) (fun z => by simpa only [am_q, z, decide_false, cond_false, not_false_eq_true, not_true_eq_false, decide_true, cond_true] using K1)
    | lt => exact lv_if_lt hx hb hd ht (fun z => by simpa only [am_q, z, decide_true, cond_true, not_false_eq_true, not_true_eq_false, decide_false, cond_false] using K1) (fun z => by simpa only [am_q, z, decide_false, cond_false, not_false_eq_true, not_true_eq_false, decide_true, cond_true] using K1)
    | ge => exact lv_if_ge hx hb hd ht (fun z => by simpa only [am_q, z, decide_true, cond_true, not_false_eq_true, not_true_eq_false, decide_false, cond_false] using K1) (fun z => by simpa only [am_q, z, decide_false, cond_false, not_false_eq_true, not_true_eq_false, decide_true, cond_true] using K1)
    | gt => exact lv_if_gt hx hb hd ht (fun z => by simpa only [am_q, z, decide_true, cond_true, not_false_eq_true, not_true_eq_false, decide_false, cond_false] using K1) (fun z => by simpa only [am_q, z, decide_false, cond_false, not_false_eq_true, not_true_eq_false, decide_true, cond_true] using K1)
    | le => exact lv_if_le hx hb hd ht (fun z => by simpa only [am_q, z, decide_true, cond_true, not_false_eq_true, not_true_eq_false, decide_false, cond_false] using K1) (fun z => by simpa only [am_q, z, decide_false, cond_false, not_false_eq_true, not_true_eq_false, decide_true, cond_true] using K1)
  · cases hs
theorem am_S_if_icmp (C : am_ctx p s m args meth c G cc nL oc ini) {q : ClassFile.Cond} {off : Int} {t : Nat} (ht : (pc : Int) + off = (t : Int)) (hd : decode cc pc = .ok (.if_icmp q off, 3)) (hn : nx = pc + 3) (hs : am_c2 (am_q q) L t nx st h = some (.inl (pc', L', st', h'))) (K : am_gd p l e R s m args below meth c Q G nL n0 s0 c0 pc' L' st' h') : am_gd p l e R s m args below meth c Q G nL n0 s0 c0 pc L st h := by
  obtain ⟨hx, hb, -⟩ := C
  subst hn
  unfold am_c2 at hs
  split at hs
  · cases hs
    intro H locs ls hr hl hS
    have K1 := K H locs ls hr hl hS
    cases q with
    | eq => exact lv_icmp_eq hx hb hd ht (fun z => by simpa only [am_q, z, decide_true, cond_true, not_false_eq_true, not_true_eq_false, decide_false, cond_false] using K1) (fun z => by simpa only [am_q, z, decide_false, cond_false, not_false_eq_true, not_true_eq_false, decide_true, cond_true] using K1)
    | ne => exact lv_icmp_ne hx hb hd ht (fun z => by simpa only [am_q, z, decide_true, cond_true, not_false_eq_true, not_true_eq_false, decide_false, cond_false] using K1) (fun z => by simpa only [am_q, z, decide_false, cond_false, not_false_eq_true, not_true_eq_false, decide_true, cond_true] using K1)
    | lt => exact lv_icmp_lt hx hb hd ht (fun z => by simpa only [am_q, z, decide_true, cond_true, not_false_eq_true, not_true_eq_false, decide_false, cond_false] using K1) (fun z => by simpa only [am_q, z, decide_false, cond_false, not_false_eq_true, not_true_eq_false, decide_true, cond_true] using K1)
    | ge => exact lv_icmp_ge hx hb hd ht (fun z => by simpa only [am_q, z, decide_true, cond_true, not_false_eq_true, not_true_eq_false, decide_false, cond_false] using K1) (fun z => by simpa only [am_q, z, decide_false, cond_false, not_false_eq_true, not_true_eq_false, decide_true, cond_true] using K1)
    | gt => exact lv_icmp_gt hx hb hd ht (fun z => by simpa only [am_q, z, decide_true, cond_true, not_false_eq_true, not_true_eq_false, decide_false, cond_false] using K1) (fun z => by simpa only [am_q, z, decide_false, cond_false, not_false_eq_true, not_true_eq_false, decide_true, cond_true] using K1)
    | le => exact lv_icmp_le hx hb hd ht (fun z => by simpa only [am_q, z, decide_true, cond_true, not_false_eq_true, not_true_eq_false, decide_false, cond_false] using K1) (fun z => by simpa only [am_q, z, decide_false, cond_false, not_false_eq_true, not_true_eq_false, decide_true, cond_true] using K1)
  · cases hs
theorem am_S_goto (C : am_ctx p s m args meth c G cc nL oc ini) {off : Int} {t : Nat} (ht : (pc : Int) + off = (t : Int)) (hd : decode cc pc = .ok (.goto off, 3)) (hs : am_n t L st h = some (.inl (pc', L', st', h'))) (K : am_gd p l e R s m args below meth c Q G nL n0 s0 c0 pc' L' st' h') : am_gd p l e R s m args below meth c Q G nL n0 s0 c0 pc L st h := by
  obtain ⟨hx, hb, -⟩ := C
  cases hs
  intro H locs ls hr hl hS
  exact lv_goto hx hb hd ht (K H locs ls hr hl hS)
theorem am_tgt_eq {pc t : Nat} {off : Int} (h : am_tgt pc off = some t) : (pc : Int) + off = (t : Int) := by
  unfold am_tgt at h
  split at h
  · rename_i z
    cases h
    exact (Int.toNat_of_nonneg z).symm
  · cases h
theorem am_S_tsw (C : am_ctx p s m args meth c G cc nL oc ini) {d lo hi : Int} {offs : Array Int} {ln : Nat} (hd : decode cc pc = .ok (.tableswitch d lo hi offs, ln)) (hs : (match st with
      | .int x :: r => am_jmp (am_tsw pc d lo hi offs.toList x) L r h
      | _ => none) = some (.inl (pc', L', st', h'))) (K : am_gd p l e R s m args below meth c Q G nL n0 s0 c0 pc' L' st' h') : am_gd p l e R s m args below meth c Q G nL n0 s0 c0 pc L st h := by
  obtain ⟨hx, hb, -⟩ := C
  split at hs
  · rename_i x r
    unfold am_jmp at hs
    split at hs
    · rename_i t ht
      cases hs
      intro H locs ls hr hl hS
      unfold am_tsw at ht
      split at ht
      · rename_i z
        exact lv_tableOut hx hb hd z (am_tgt_eq ht) (K H locs ls hr hl hS)
      · rename_i z
        split at ht
        · rename_i o ho
          exact lv_tableIn hx hb hd (fun q => z (Or.inl q)) (fun q => z (Or.inr q)) (by rw [← Array.getElem?_toList]; exact ho) (am_tgt_eq ht) (K H locs ls hr hl hS)
        · cases ht
    · cases hs
  · cases hs
theorem am_S_lsw (C : am_ctx p s m args meth c G cc nL oc ini) {d : Int} {ps : Array (Int × Int)} {ln : Nat} (hd : decode cc pc = .ok (.lookupswitch d ps, ln)) (hs : (match st with
      | .int x :: r => am_jmp (am_lsw pc d ps.toList x) L r h
      | _ => none) = some (.inl (pc', L', st', h'))) (K : am_gd p l e R s m args below meth c Q G nL n0 s0 c0 pc' L' st' h') : am_gd p l e R s m args below meth c Q G nL n0 s0 c0 pc L st h := by
  obtain ⟨hx, hb, -⟩ := C
  split at hs
  · rename_i x r
    unfold am_jmp at hs
    split at hs
    · rename_i t ht
      cases hs
      intro H locs ls hr hl hS
      unfold am_lsw at ht
      split at ht
      · rename_i z
        exact lv_lookup hx hb hd z rfl (am_tgt_eq ht) (K H locs ls hr hl hS)
      · cases ht
    · cases hs
  · cases hs
end AMS
