section AMY
variable {p : Program} {l : Launch} {e : Env} {R : Room} {s : State} {m : MethodId} {args : Array Value} {below : List Frame} {meth : Method} {c : Code} {Q : State → Prop}
variable {G : am_G} {cc : ByteArray} {nL oc n0 s0 : Nat} {c0 : Nat × Nat} {ini : Bool}
variable {pc nx pc' : Nat} {L L' : am_L} {st st' : List Value} {h h' : am_H}
theorem am_nn (z : Int32) (hz : ¬ z < 0) : z.toInt = (z.toNatClampNeg : Int) := by
  have hz0 : (0 : Int) ≤ z.toInt := by
    have := Int32.not_lt.mp hz
    simpa using Int32.le_iff_toInt_le.mp this
  show z.toInt = ((z.toInt.toNat : Nat) : Int)
  omega
theorem am_Wcopy_i {i d a b na nb : Nat} {f g : Nat → Int32} {sp dp n : Int32} {H : Heap} {locs : List Loc} {cells slots : Nat} {ls : Array Slot} {rest : List Value} (C : am_ctx p s m args meth c G cc nL oc ini) (hR : am_fit R d) (hw : Cond.methodLink (am_own oc) i arraycopyName ∈ am_gw)
    (hc0 : H[a]? = some (arrV (G.2.2.2.1 .int) na (fun j => Value.int (f j)))) (hc1 : H[b]? = some (arrV (G.2.2.2.1 .int) nb (fun j => Value.int (g j)))) (h1 : ¬ sp < 0) (h2 : ¬ dp < 0) (h3 : ¬ n < 0) (h4 : sp.toNatClampNeg + n.toNatClampNeg ≤ na) (h5 : dp.toNatClampNeg + n.toNatClampNeg ≤ nb) (hls : ls.size = nL) (hcs : (rest.map fun v => v.category).sum ≤ 8) (hbA : am_A G b)
    (hS : va_S (am_A G) s.heap H locs) (hd : decode cc pc = .ok (.invokestatic i, 3))
    (kk : ∀ (H1 : Heap) (locs1 : List Loc), H1[b]? = some (arrV (G.2.2.2.1 .int) nb (fun j => Value.int (va_cpy f g sp.toNatClampNeg dp.toNatClampNeg n.toNatClampNeg j))) → H1.size = H.size → (∀ q : Nat, q ≠ b → H1[q]? = H[q]?) → va_S (am_A G) s.heap H1 locs1 → W p l e R s m args below meth c H1 locs1 cells slots Q (F0 m (pc + 3) ls rest)) :
    W p l e R s m args below meth c H locs cells slots Q (F0 m pc ls (.int n :: .int dp :: .ref b :: .int sp :: .ref a :: rest)) := by
  obtain ⟨hx, hb, hml, hown, hts, hK, hok, hbase, -⟩ := C
  have hty : (.int : FieldType) ∈ am_tys := by simp [am_tys]
  intro T hT X
  obtain ⟨-, k0, hk0, cm0, hkk0⟩ := (am_tyIx hty hK).1 na (fun j => Value.int (f j))
  obtain ⟨-, k1, hk1, cm1, hkk1⟩ := (am_tyIx hty hK).1 nb (fun j => Value.int (g j))
  obtain ⟨vm', X', step⟩ := X.arraycopy hx hown (hts _ hw) (hts _ am_cy_in.1) (hts _ am_cy_in.2.1) (hts _ am_cy_in.2.2) (src := a) (dst := b) (cs := arrV (G.2.2.2.1 .int) na (fun j => Value.int (f j))) (cd := arrV (G.2.2.2.1 .int) nb (fun j => Value.int (g j))) (srcPos := sp) (destPos := dp) (n := n) (by rw [hT]; exact hc0) (by rw [hT]; exact hc1)
    (fun _ h => by cases h) (fun _ h => by cases h) (fun h => by cases h) (fun h => by cases h) hk0 hk1 hkk0 hkk1 (by simp [refKind]) h1 h2 h3
    (by rw [am_nn sp h1, am_nn n h3, arrV_size]; omega)
    (by rw [am_nn dp h2, am_nn n h3, arrV_size]; omega)
    (fun vm₁ _ j hj => by
      have e : (arrV (G.2.2.2.1 .int) na (fun j => Value.int (f j))).slots.getD (sp.toNatClampNeg + j) .null = Value.int (f (sp.toNatClampNeg + j)) := by
        rw [Array.getD_eq_getD_getElem?, arrV_read _ _ (by omega)]
        rfl
      rw [e]
      exact ⟨rfl, trivial⟩)
    (g := F0 m pc ls (.int n :: .int dp :: .ref b :: .int sp :: .ref a :: rest)) rfl (hls.trans hml.symm) (rest := rest) rfl (by rw [hb]; exact hd) (by have := hR.1; omega) (by
      have z : nativeFrameWords "java/lang/System" "arraycopy" 5 ≤ 30 := by decide +kernel
      have := hR.2
      show 2 * 0 + _ + _ ≤ _
      omega)
  have e1 : copied (arrV (G.2.2.2.1 .int) na (fun j => Value.int (f j))) (arrV (G.2.2.2.1 .int) nb (fun j => Value.int (g j))) sp dp n = arrV (G.2.2.2.1 .int) nb (fun j => Value.int (va_cpy f g sp.toNatClampNeg dp.toNatClampNeg n.toNatClampNeg j)) := va_copied (fun z => Value.int z) _ _ f g h4
  rw [e1] at X' step
  have hl : b < H.size := (Array.getElem?_eq_some_iff.mp hc1).1
  have hheap : ((T.setVm vm').setCell b (arrV (G.2.2.2.1 .int) nb (fun j => Value.int (va_cpy f g sp.toNatClampNeg dp.toNatClampNeg n.toNatClampNeg j)))).heap = H.setIfInBounds b (arrV (G.2.2.2.1 .int) nb (fun j => Value.int (va_cpy f g sp.toNatClampNeg dp.toNatClampNeg n.toNatClampNeg j))) := by rw [← hT]; rfl
  have oq : ∀ q : Nat, q ≠ b → (H.setIfInBounds b (arrV (G.2.2.2.1 .int) nb (fun j => Value.int (va_cpy f g sp.toNatClampNeg dp.toNatClampNeg n.toNatClampNeg j))))[q]? = H[q]? := fun q hq => by simp [Array.getElem?_setIfInBounds, Ne.symm hq]
  obtain ⟨t, a1, b1⟩ := kk _ _ (by simp [Array.getElem?_setIfInBounds, hl]) (by simp) oq ⟨by simp; exact hS.1, fun q g1 g2 => by
      rw [oq q (fun e => g2 (by rw [e]; exact hbA))]
      exact hS.2.1 q g1 g2, fun q hq => by
      rcases List.mem_append.mp hq with h | h
      · exact hS.2.2 q h
      · obtain ⟨z, -, hz⟩ := List.mem_map.mp h
        rw [← hz]
        exact hbA⟩ _ hheap X'
  exact ⟨t, step t a1, b1⟩
theorem am_Wcopy_l {i d a b na nb : Nat} {f g : Nat → Int64} {sp dp n : Int32} {H : Heap} {locs : List Loc} {cells slots : Nat} {ls : Array Slot} {rest : List Value} (C : am_ctx p s m args meth c G cc nL oc ini) (hR : am_fit R d) (hw : Cond.methodLink (am_own oc) i arraycopyName ∈ am_gw)
    (hc0 : H[a]? = some (arrV (G.2.2.2.1 .long) na (fun j => Value.long (f j)))) (hc1 : H[b]? = some (arrV (G.2.2.2.1 .long) nb (fun j => Value.long (g j)))) (h1 : ¬ sp < 0) (h2 : ¬ dp < 0) (h3 : ¬ n < 0) (h4 : sp.toNatClampNeg + n.toNatClampNeg ≤ na) (h5 : dp.toNatClampNeg + n.toNatClampNeg ≤ nb) (hls : ls.size = nL) (hcs : (rest.map fun v => v.category).sum ≤ 8) (hbA : am_A G b)
    (hS : va_S (am_A G) s.heap H locs) (hd : decode cc pc = .ok (.invokestatic i, 3))
    (kk : ∀ (H1 : Heap) (locs1 : List Loc), H1[b]? = some (arrV (G.2.2.2.1 .long) nb (fun j => Value.long (va_cpy f g sp.toNatClampNeg dp.toNatClampNeg n.toNatClampNeg j))) → H1.size = H.size → (∀ q : Nat, q ≠ b → H1[q]? = H[q]?) → va_S (am_A G) s.heap H1 locs1 → W p l e R s m args below meth c H1 locs1 cells slots Q (F0 m (pc + 3) ls rest)) :
    W p l e R s m args below meth c H locs cells slots Q (F0 m pc ls (.int n :: .int dp :: .ref b :: .int sp :: .ref a :: rest)) := by
  obtain ⟨hx, hb, hml, hown, hts, hK, hok, hbase, -⟩ := C
  have hty : (.long : FieldType) ∈ am_tys := by simp [am_tys]
  intro T hT X
  obtain ⟨-, k0, hk0, cm0, hkk0⟩ := (am_tyIx hty hK).1 na (fun j => Value.long (f j))
  obtain ⟨-, k1, hk1, cm1, hkk1⟩ := (am_tyIx hty hK).1 nb (fun j => Value.long (g j))
  obtain ⟨vm', X', step⟩ := X.arraycopy hx hown (hts _ hw) (hts _ am_cy_in.1) (hts _ am_cy_in.2.1) (hts _ am_cy_in.2.2) (src := a) (dst := b) (cs := arrV (G.2.2.2.1 .long) na (fun j => Value.long (f j))) (cd := arrV (G.2.2.2.1 .long) nb (fun j => Value.long (g j))) (srcPos := sp) (destPos := dp) (n := n) (by rw [hT]; exact hc0) (by rw [hT]; exact hc1)
    (fun _ h => by cases h) (fun _ h => by cases h) (fun h => by cases h) (fun h => by cases h) hk0 hk1 hkk0 hkk1 (by simp [refKind]) h1 h2 h3
    (by rw [am_nn sp h1, am_nn n h3, arrV_size]; omega)
    (by rw [am_nn dp h2, am_nn n h3, arrV_size]; omega)
    (fun vm₁ _ j hj => by
      have e : (arrV (G.2.2.2.1 .long) na (fun j => Value.long (f j))).slots.getD (sp.toNatClampNeg + j) .null = Value.long (f (sp.toNatClampNeg + j)) := by
        rw [Array.getD_eq_getD_getElem?, arrV_read _ _ (by omega)]
        rfl
      rw [e]
      exact ⟨rfl, trivial⟩)
    (g := F0 m pc ls (.int n :: .int dp :: .ref b :: .int sp :: .ref a :: rest)) rfl (hls.trans hml.symm) (rest := rest) rfl (by rw [hb]; exact hd) (by have := hR.1; omega) (by
      have z : nativeFrameWords "java/lang/System" "arraycopy" 5 ≤ 30 := by decide +kernel
      have := hR.2
      show 2 * 0 + _ + _ ≤ _
      omega)
  have e1 : copied (arrV (G.2.2.2.1 .long) na (fun j => Value.long (f j))) (arrV (G.2.2.2.1 .long) nb (fun j => Value.long (g j))) sp dp n = arrV (G.2.2.2.1 .long) nb (fun j => Value.long (va_cpy f g sp.toNatClampNeg dp.toNatClampNeg n.toNatClampNeg j)) := va_copied (fun z => Value.long z) _ _ f g h4
  rw [e1] at X' step
  have hl : b < H.size := (Array.getElem?_eq_some_iff.mp hc1).1
  have hheap : ((T.setVm vm').setCell b (arrV (G.2.2.2.1 .long) nb (fun j => Value.long (va_cpy f g sp.toNatClampNeg dp.toNatClampNeg n.toNatClampNeg j)))).heap = H.setIfInBounds b (arrV (G.2.2.2.1 .long) nb (fun j => Value.long (va_cpy f g sp.toNatClampNeg dp.toNatClampNeg n.toNatClampNeg j))) := by rw [← hT]; rfl
  have oq : ∀ q : Nat, q ≠ b → (H.setIfInBounds b (arrV (G.2.2.2.1 .long) nb (fun j => Value.long (va_cpy f g sp.toNatClampNeg dp.toNatClampNeg n.toNatClampNeg j))))[q]? = H[q]? := fun q hq => by simp [Array.getElem?_setIfInBounds, Ne.symm hq]
  obtain ⟨t, a1, b1⟩ := kk _ _ (by simp [Array.getElem?_setIfInBounds, hl]) (by simp) oq ⟨by simp; exact hS.1, fun q g1 g2 => by
      rw [oq q (fun e => g2 (by rw [e]; exact hbA))]
      exact hS.2.1 q g1 g2, fun q hq => by
      rcases List.mem_append.mp hq with h | h
      · exact hS.2.2 q h
      · obtain ⟨z, -, hz⟩ := List.mem_map.mp h
        rw [← hz]
        exact hbA⟩ _ hheap X'
  exact ⟨t, step t a1, b1⟩
theorem am_S_copy {i d : Nat} (C : am_ctx p s m args meth c G cc nL oc ini) (hR : am_fit R d) (hw : Cond.methodLink (am_own oc) i arraycopyName ∈ am_gw) (hd : decode cc pc = .ok (.invokestatic i, 3)) (hn : nx = pc + 3) (hs : am_copy L nx st h = some (.inl (pc', L', st', h')))
    (K : am_gd p l e R s m args below meth c Q G nL n0 s0 c0 pc' L' st' h') : am_gd p l e R s m args below meth c Q G nL n0 s0 c0 pc L st h := by
  have C0 := C
  obtain ⟨hx, hb, hml, hown, hts, hK, hok, hbase, -⟩ := C
  subst hn
  unfold am_copy at hs
  split at hs
  · rename_i n dp b sp a r
    split at hs
    · rename_i na fa nb fb hSa hSb
      split at hs
      · cases hs
      · rename_i hne
        cases hs
        intro H locs ls hr hl hS
        obtain ⟨a2, aty, ac⟩ := hr.1 a _ hSa
        obtain ⟨b2, bty, bc⟩ := hr.1 b _ hSb
        refine am_Wcopy_i (f := h.2.2.2.1 a) (g := h.2.2.2.1 b) C0 hR hw ac bc (fun z => hne (by simp [z])) (fun z => hne (by simp [z])) (fun z => hne (by simp [z])) (Nat.not_lt.mp fun z => hne (by simp [z])) (Nat.not_lt.mp fun z => hne (by simp [z])) hl.2.1 (by rw [am_cs_rv]; exact Nat.not_lt.mp fun z => hne (by simp [z])) (am_inA hok b2) hS hd fun H1 locs1 g1 g2 g3 g4 => ?_
        refine K H1 locs1 ls (am_put hok hr b2 g2 g3 rfl (fun _ _ => rfl) (by rw [hSb]; exact fun y => by cases y) (fun j hj => ?_) (fun _ _ => rfl) fun y hy => ?_) hl g4
        · funext k'
          show am_cp h.2.2.2.1 a _ b _ _ j k' = _
          simp [am_cp, hj]
        · have hy : h.2.2.1 b = some y := hy
          rw [hSb] at hy
          cases hy
          refine ⟨b2, bty, ?_⟩
          rw [g1]
          congr 2
          funext j
          show Value.int _ = Value.int (am_cp h.2.2.2.1 a _ b _ _ b j)
          simp [am_cp, va_cpy]
    · rename_i na fa nb fb hSa hSb
      split at hs
      · cases hs
      · rename_i hne
        cases hs
        intro H locs ls hr hl hS
        obtain ⟨a2, aty, ac⟩ := hr.1 a _ hSa
        obtain ⟨b2, bty, bc⟩ := hr.1 b _ hSb
        refine am_Wcopy_l (f := h.2.2.2.2 a) (g := h.2.2.2.2 b) C0 hR hw ac bc (fun z => hne (by simp [z])) (fun z => hne (by simp [z])) (fun z => hne (by simp [z])) (Nat.not_lt.mp fun z => hne (by simp [z])) (Nat.not_lt.mp fun z => hne (by simp [z])) hl.2.1 (by rw [am_cs_rv]; exact Nat.not_lt.mp fun z => hne (by simp [z])) (am_inA hok b2) hS hd fun H1 locs1 g1 g2 g3 g4 => ?_
        refine K H1 locs1 ls (am_put hok hr b2 g2 g3 rfl (fun _ _ => rfl) (by rw [hSb]; exact fun y => by cases y) (fun _ _ => rfl) (fun j hj => ?_) fun y hy => ?_) hl g4
        · funext k'
          show am_cpL h.2.2.2.2 a _ b _ _ j k' = _
          simp [am_cpL, hj]
        · have hy : h.2.2.1 b = some y := hy
          rw [hSb] at hy
          cases hy
          refine ⟨b2, bty, ?_⟩
          rw [g1]
          congr 2
          funext j
          show Value.long _ = Value.long (am_cpL h.2.2.2.2 a _ b _ _ b j)
          simp [am_cpL, va_cpy]
    · cases hs
  · cases hs
end AMY
