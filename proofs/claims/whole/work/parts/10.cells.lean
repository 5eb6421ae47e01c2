section AMH
variable {p : Program} {l : Launch} {e : Env} {R : Room} {s : State} {m : MethodId} {args : Array Value} {below : List Frame} {meth : Method} {c : Code} {Q : State → Prop}
variable {G : am_G} {cc : ByteArray} {nL oc n0 s0 : Nat} {c0 : Nat × Nat} {ini : Bool}
variable {pc nx pc' : Nat} {L L' : am_L} {st st' : List Value} {h h' : am_H}
variable {H : Heap} {locs : List Loc} {cells slots : Nat} {ls : Array Slot} {rest : List Value}
theorem am_ix_eq {j : Int32} {n k : Nat} (h : am_ix j n = some k) : ¬ (j < 0 ∨ n ≤ j.toNatClampNeg) ∧ j.toNatClampNeg = k ∧ k < n := by
  unfold am_ix at h
  split at h
  · rename_i z
    cases h
    exact ⟨z, rfl, Nat.not_le.mp fun q => z (Or.inr q)⟩
  · cases h
theorem am_tyIx {ty : FieldType} (h : ty ∈ am_tys) (hK : am_K G s) : ArrOfT s (G.2.2.2.1 ty) ty ∧ va_RA s (G.2.2.2.1 ty) ty := by
  obtain ⟨t, ht⟩ := List.getElem?_of_mem h
  exact hK.1.2 t (G.2.2.2.1 ty, ty) (by rw [List.getElem?_map, ht]; rfl)
/-- the world of one object of ours -/
def am_fs (G : am_G) (μ : am_M2) (ν : am_N2) (i : Nat) (ks : List (Option Nat ⊕ Bool)) : List Value := (List.range ks.length).map fun k => am_rv G.1 (am_ov μ ν i ks k)
theorem am_fs_get {μ : am_M2} {ν : am_N2} {i k : Nat} {ks : List (Option Nat ⊕ Bool)} {x : Option Nat ⊕ Bool} (hx : ks[k]? = some x) : (am_fs G μ ν i ks)[k]? = some (am_rv G.1 (am_fv μ ν i k x)) := by
  have hk := (List.getElem?_eq_some_iff.mp hx).1
  unfold am_fs
  rw [List.getElem?_map, List.getElem?_range hk]
  simp [am_ov, hx]
theorem am_P1 {μ : am_M2} {ν : am_N2} {i ci : Nat} {ks : List (Option Nat ⊕ Bool)} {U : State} (h : am_at G U H μ ν i (.inr (ci, ks))) : va_P (G.2.1, G.2.2.1) am_cl [(G.1 i, .inr (ci, am_fs G μ ν i ks))] H := by
  obtain ⟨-, q, h2, h3, h4⟩ := h
  intro k x hk
  have hz : k < 1 := (List.getElem?_eq_some_iff.mp hk).1
  rw [show k = 0 by omega] at hk
  cases hk
  refine ⟨q, h2, h4.to fun j hj => ?_⟩
  rw [← h3] at hj
  simp [vp_V, am_fs, hj]
theorem am_S_getf (C : am_ctx p s m args meth c G cc nL oc ini) {i ci k : Nat} {q0 : vw_C} (hq0 : am_cl[ci]? = some q0) (hk0 : k < q0.2.2) (hw : Cond.fieldLink (am_own oc) i q0.1 (q0.2.1 k).2.1 (q0.2.1 k).2.2.1 ∈ am_gw)
    (hd : decode cc pc = .ok (.getfield i, 3)) (hn : nx = pc + 3) (hs : am_getf ci k L nx st h = some (.inl (pc', L', st', h'))) (K : am_gd p l e R s m args below meth c Q G nL n0 s0 c0 pc' L' st' h') : am_gd p l e R s m args below meth c Q G nL n0 s0 c0 pc L st h := by
  obtain ⟨hx, hb, -, hown, hts, hK, -⟩ := C
  subst hn
  unfold am_getf at hs
  split at hs
  · rename_i a r
    split at hs
    · rename_i c1 ks hS1
      split at hs
      · rename_i hc1
        subst hc1
        split at hs
        · rename_i x hx1
          cases hs
          intro H locs ls hr hl hS
          have hP := am_P1 (hr.1 a _ hS1)
          have hcl := am_clok hq0
          refine va_get (ref := q0.1) hx hb hts hcl.1 hown hK.1 hP 0 rfl hq0 k hk0 (hts _ hw) (fun y hy => ?_) (am_fs_get hx1) hd (K H locs ls hr hl hS)
          rw [hcl.2.1 k hk0] at hy
          exact hy
        · cases hs
      · cases hs
    · cases hs
  · cases hs
/-- putfield, over the heap itself -/
theorem am_Wput (C : am_ctx p s m args meth c G cc nL oc ini) {i ci k a : Nat} {q0 : vw_C} (hq0 : am_cl[ci]? = some q0) (hk0 : k < q0.2.2) (hw : Cond.fieldLink (am_own oc) i q0.1 (q0.2.1 k).2.1 (q0.2.1 k).2.2.1 ∈ am_gw) (hf : (q0.2.1 k).2.2.2 = false ∨ (ini = true ∧ ci = oc))
    {v : Value} (hnar : narrow (am_ty ci k) v = v) (hfit : fits (am_ty ci k) v = true) {V : Nat → Value} (hob : t_OB a (G.2.1 ci) q0.2.2 (G.2.2.1 ci) H V) (hd : decode cc pc = .ok (.putfield i, 3))
    (kk : ∀ (H1 : Heap) (z : Nat), t_OB a (G.2.1 ci) q0.2.2 (G.2.2.1 ci) H1 (updV V k v) → H1.size = H.size → (∀ x : Nat, x ≠ a → H1[x]? = H[x]?) → W p l e R s m args below meth c H1 (locs ++ [⟨a, z⟩]) cells slots Q (F0 m (pc + 3) ls rest)) :
    W p l e R s m args below meth c H locs cells slots Q (F0 m pc ls (v :: .ref a :: rest)) := by
  obtain ⟨hx, hb, -, hown, hts, hK, -, -, hini⟩ := C
  have hcl := am_clok hq0
  have hap := va_apart (own := am_own oc) hts hcl.1 (am_ty ci) hcl.2.2.1 hcl.2.2.2.1 hK.1 hq0
  obtain ⟨cell, q1, q2, q3, q4⟩ := hob
  obtain ⟨hS, hfc, kC, hkC, hkind⟩ := hK.1.1 ci _ hq0
  obtain ⟨cf, kf, fi, f, hi, hsl⟩ := hS k hk0
  have hi' : s.fieldFound? q0.1 (q0.2.1 k).2.1 (q0.2.1 k).2.2.1 = some (cf, kf, fi, f) := by rw [← hcl.2.1 k hk0]; exact hi
  have hst := (u_facts hfc hkC (u_lays hts hcl.1 hk0) hi).1
  have hd0 := hcl.2.2.1 k hk0
  by_cases hfin : (q0.2.1 k).2.2.2 = true
  · rcases hf with hf | ⟨hf1, hf2⟩
    · rw [hfin] at hf; cases hf
    have hlay := hts _ (hcl.1 _ (u_in_lay hk0))
    unfold u_lay at hlay
    rw [if_pos hfin] at hlay
    have hcf : m.cls = cf := by
      obtain ⟨_, _, c', _, _, _, -, -, hf', -, -, -, hown2, -⟩ := Cond.laysFinal_spec hlay
      have e1 : c' = cf := by have := hi.symm.trans hf'; simp at this; exact this.1.symm
      rw [hcl.2.1 k hk0, ← hcl.2.2.2.2.2.2.2, hf2] at hown2
      rw [← e1]; exact Option.some.inj (hown.symm.trans hown2)
    have h6 := u_fits hfc hkC hkind (Or.inr hlay) hi hd0 hnar hfit
    refine W.putFinK hx hb hown (hts _ hw) hi' hst hcf (hini hf1) (by rw [q2]; exact h6) q1 q3 (by rw [hsl]; exact k2_hasslot (q4 k hk0)) rfl rfl hd fun H' e1 e2 e3 => ?_
    rw [hsl] at e1 ⊢
    exact kk H' _ ⟨_, e1, q2, q3, t_set q4 hap hk0 v⟩ e2 e3
  · have hfin : (q0.2.1 k).2.2.2 = false := by cases hz : (q0.2.1 k).2.2.2 <;> simp_all
    have hlay := hts _ (hcl.1 _ (u_in_lay hk0))
    unfold u_lay at hlay
    rw [if_neg (by rw [hfin]; decide)] at hlay
    have h6 := u_store hfc hkC hkind hlay hi hd0 hnar hfit
    refine W.putK hx hb (f := f) ⟨hown, hts _ hw, ⟨_, _, _, hi'⟩, hst⟩ (by rw [q2]; exact h6) q1 q3 (by rw [hsl]; exact k2_hasslot (q4 k hk0)) rfl rfl hd fun H' e1 e2 e3 => ?_
    rw [hsl] at e1 ⊢
    exact kk H' _ ⟨_, e1, q2, q3, t_set q4 hap hk0 v⟩ e2 e3
theorem am_S_put {A : Nat → Prop} {H0 H H1 : Heap} {locs : List Loc} {a z : Nat} (hS : va_S A H0 H locs) (e : H1.size = H.size) (o : ∀ x : Nat, x ≠ a → H1[x]? = H[x]?) (ha : A a) : va_S A H0 H1 (locs ++ [⟨a, z⟩]) := hS.put e o ha
theorem am_inA (hok : am_ok G) {a : Nat} (ha : 2 ≤ a) : am_A G (G.1 a) := by
  show am_base G ≤ G.1 a
  rw [hok.2.2 a ha]
  exact Nat.le_add_right _ _
theorem am_ov_up {μ : am_M2} {ν : am_N2} {a k j : Nat} {x : Int32} {ks : List (Option Nat ⊕ Bool)} (hjk : ¬ j = k) : am_ov (am_up μ a k x) ν a ks j = am_ov μ ν a ks j := by
  unfold am_ov
  cases ks[j]? with
  | none => rfl
  | some y =>
    show am_fv _ _ _ _ _ = am_fv _ _ _ _ _
    unfold am_fv
    simp [am_up, hjk]
theorem am_ov_upL {μ : am_M2} {ν : am_N2} {a k j : Nat} {x : Int64} {ks : List (Option Nat ⊕ Bool)} (hjk : ¬ j = k) : am_ov μ (am_upL ν a k x) a ks j = am_ov μ ν a ks j := by
  unfold am_ov
  cases ks[j]? with
  | none => rfl
  | some y =>
    show am_fv _ _ _ _ _ = am_fv _ _ _ _ _
    unfold am_fv
    simp [am_upL, hjk]
theorem am_ov_set {μ : am_M2} {ν : am_N2} {a k j : Nat} {z : Option Nat ⊕ Bool} {ks : List (Option Nat ⊕ Bool)} (hjk : ¬ j = k) : am_ov μ ν a (ks.set k z) j = am_ov μ ν a ks j := by
  unfold am_ov
  rw [List.getElem?_set_ne (Ne.symm hjk)]
theorem am_S_putf (C : am_ctx p s m args meth c G cc nL oc ini) {i ci k t : Nat} {q0 : vw_C} (hq0 : am_cl[ci]? = some q0) (hk0 : k < q0.2.2) (hw : Cond.fieldLink (am_own oc) i q0.1 (q0.2.1 k).2.1 (q0.2.1 k).2.2.1 ∈ am_gw) (hf : (q0.2.1 k).2.2.2 = false ∨ (ini = true ∧ ci = oc))
    (ht : (t = 0 → am_ty ci k = .int) ∧ (t = 1 → am_ty ci k = .boolean) ∧ (t = 2 → am_ty ci k = .long) ∧ (t = 3 → (∃ C, am_ty ci k = .object C) ∨ ∃ t, am_ty ci k = .array t))
    (hd : decode cc pc = .ok (.putfield i, 3)) (hn : nx = pc + 3) (hs : am_putf ci k t L nx st h = some (.inl (pc', L', st', h'))) (K : am_gd p l e R s m args below meth c Q G nL n0 s0 c0 pc' L' st' h') : am_gd p l e R s m args below meth c Q G nL n0 s0 c0 pc L st h := by
  have C0 := C
  obtain ⟨hx, hb, -, hown, hts, hK, hok, -⟩ := C
  subst hn
  unfold am_putf at hs
  split at hs
  · rename_i v a r
    split at hs
    · rename_i c1 ks hS1
      split at hs
      · rename_i hc1
        subst hc1
        split at hs
        · rename_i x hx1
          split at hs
          · rename_i hcnd
            cases hs
            intro H locs ls hr hl hS
            obtain ⟨h2, q, hq, h3, h4⟩ := hr.1 a _ hS1
            have hqq : q = q0 := Option.some.inj (hq.symm.trans hq0)
            subst hqq
            have hnf : narrow (am_ty c1 k) (.int x) = .int x ∧ fits (am_ty c1 k) (.int x) = true := by
              rcases hcnd with z | ⟨z, z2⟩
              · rw [ht.1 z]; exact ⟨rfl, rfl⟩
              · rw [ht.2.1 z]
                rcases z2 with rfl | rfl <;> exact ⟨by decide, by decide⟩
            refine am_Wput C0 hq0 hk0 hw hf hnf.1 hnf.2 h4 hd fun H1 z g1 g2 g3 => K H1 _ ls (am_put hok hr h2 g2 g3 rfl (fun _ _ => rfl) (by rw [hS1]; exact fun y => by cases y) (fun j hj => ?_) (fun _ _ => rfl) fun y hy => ?_) hl (hS.put g2 g3 (am_inA hok h2))
            · funext k'
              show am_up h.2.2.2.1 a k x j k' = _
              simp [am_up, hj]
            · have hy : h.2.2.1 a = some y := hy
              rw [hS1] at hy
              cases hy
              refine ⟨h2, q, hq, h3, g1.to fun j hj => ?_⟩
              show updV _ k (Value.int x) j = am_rv G.1 (am_ov (am_up h.2.2.2.1 a k x) h.2.2.2.2 a ks j)
              unfold updV
              by_cases hjk : j = k
              · subst hjk
                simp [am_ov, hx1, am_fv, am_up, am_rv]
              · rw [if_neg hjk, am_ov_up hjk]
          · cases hs
        · rename_i x hx1
          split at hs
          · rename_i hcnd
            cases hs
            intro H locs ls hr hl hS
            obtain ⟨h2, q, hq, h3, h4⟩ := hr.1 a _ hS1
            have hqq : q = q0 := Option.some.inj (hq.symm.trans hq0)
            subst hqq
            have hnf : narrow (am_ty c1 k) (.long x) = .long x ∧ fits (am_ty c1 k) (.long x) = true := by rw [ht.2.2.1 hcnd]; exact ⟨rfl, rfl⟩
            refine am_Wput C0 hq0 hk0 hw hf hnf.1 hnf.2 h4 hd fun H1 z g1 g2 g3 => K H1 _ ls (am_put hok hr h2 g2 g3 rfl (fun _ _ => rfl) (by rw [hS1]; exact fun y => by cases y) (fun _ _ => rfl) (fun j hj => ?_) fun y hy => ?_) hl (hS.put g2 g3 (am_inA hok h2))
            · funext k'
              show am_upL h.2.2.2.2 a k x j k' = _
              simp [am_upL, hj]
            · have hy : h.2.2.1 a = some y := hy
              rw [hS1] at hy
              cases hy
              refine ⟨h2, q, hq, h3, g1.to fun j hj => ?_⟩
              show updV _ k (Value.long x) j = am_rv G.1 (am_ov h.2.2.2.1 (am_upL h.2.2.2.2 a k x) a ks j)
              unfold updV
              by_cases hjk : j = k
              · subst hjk
                simp [am_ov, hx1, am_fv, am_upL, am_rv]
              · rw [if_neg hjk, am_ov_upL hjk]
          · cases hs
        · rename_i o j0 hx1
          split at hs
          · rename_i hcnd
            cases hs
            intro H locs ls hr hl hS
            obtain ⟨h2, q, hq, h3, h4⟩ := hr.1 a _ hS1
            have hqq : q = q0 := Option.some.inj (hq.symm.trans hq0)
            subst hqq
            have hnf : narrow (am_ty c1 k) (.ref (G.1 j0)) = .ref (G.1 j0) ∧ fits (am_ty c1 k) (.ref (G.1 j0)) = true := by
              rcases ht.2.2.2 hcnd with ⟨z, hz⟩ | ⟨z, hz⟩ <;> rw [hz] <;> exact ⟨rfl, rfl⟩
            have hkl : k < ks.length := (List.getElem?_eq_some_iff.mp hx1).1
            refine am_Wput C0 hq0 hk0 hw hf hnf.1 hnf.2 h4 hd fun H1 z g1 g2 g3 => K H1 _ ls (am_put hok hr h2 g2 g3 rfl (fun j hj => ?_) (by rw [hS1]; exact fun y => by cases y) (fun _ _ => rfl) (fun _ _ => rfl) fun y hy => ?_) hl (hS.put g2 g3 (am_inA hok h2))
            · show am_upS h.2.2.1 a _ j = _
              simp [am_upS, hj]
            · have hy : am_upS h.2.2.1 a (.inr (c1, ks.set k (.inl (some j0)))) a = some y := hy
              simp [am_upS] at hy
              subst hy
              refine ⟨h2, q, hq, by rw [List.length_set]; exact h3, g1.to fun j hj => ?_⟩
              show updV _ k (Value.ref (G.1 j0)) j = am_rv G.1 (am_ov h.2.2.2.1 h.2.2.2.2 a (ks.set k (.inl (some j0))) j)
              unfold updV
              by_cases hjk : j = k
              · subst hjk
                simp [am_ov, hkl, am_fv, va_rf, am_rv]
              · rw [if_neg hjk, am_ov_set hjk]
          · cases hs
        · cases hs
      · cases hs
    · cases hs
  · cases hs
end AMH
