section AMA
variable {p : Program} {l : Launch} {e : Env} {R : Room} {s : State} {m : MethodId} {args : Array Value} {below : List Frame} {meth : Method} {c : Code} {Q : State → Prop}
variable {G : am_G} {cc : ByteArray} {nL oc n0 s0 : Nat} {c0 : Nat × Nat} {ini : Bool}
variable {pc nx pc' : Nat} {L L' : am_L} {st st' : List Value} {h h' : am_H}
theorem am_S_iaload (C : am_ctx p s m args meth c G cc nL oc ini) (hd : decode cc pc = .ok (.iaload, 1)) (hn : nx = pc + 1) (hs : am_ald .int L nx st h = some (.inl (pc', L', st', h'))) (K : am_gd p l e R s m args below meth c Q G nL n0 s0 c0 pc' L' st' h') : am_gd p l e R s m args below meth c Q G nL n0 s0 c0 pc L st h := by
  obtain ⟨hx, hb, -, hown, hts, hK, hok, -⟩ := C
  subst hn
  unfold am_ald at hs
  split at hs
  · rename_i j a r
    split at hs
    · rename_i t w n f hS1
      split at hs
      · rename_i ht
        subst ht
        split at hs
        · rename_i k hk
          cases hs
          intro H locs ls hr hl hS
          obtain ⟨i1, i2, i3⟩ := am_ix_eq hk
          subst i2
          cases w with
          | true =>
            obtain ⟨h2, hty, hcell⟩ := hr.1 a _ hS1
            exact W.iald hx hb hcell ((am_tyIx hty hK).1 _ _) (fun q => by cases q) (by rw [arrV_size]; exact i1) (arrV_read _ _ i3) rfl rfl hd (K H locs ls hr hl hS)
          | false =>
            obtain ⟨h2, hty, cell, g1, g2, g3, g4, g5, g6⟩ := hr.1 a _ hS1
            exact W.iald hx hb g1 g2 g3 (fun q => by rcases q with q | q; exact i1 (Or.inl q); omega) (g6 _ i3) rfl rfl hd (K H locs ls hr hl hS)
        · cases hs
      · cases hs
    · cases hs
  · cases hs
theorem am_S_caload (C : am_ctx p s m args meth c G cc nL oc ini) (hd : decode cc pc = .ok (.caload, 1)) (hn : nx = pc + 1) (hs : am_ald .char L nx st h = some (.inl (pc', L', st', h'))) (K : am_gd p l e R s m args below meth c Q G nL n0 s0 c0 pc' L' st' h') : am_gd p l e R s m args below meth c Q G nL n0 s0 c0 pc L st h := by
  obtain ⟨hx, hb, -, hown, hts, hK, hok, -⟩ := C
  subst hn
  unfold am_ald at hs
  split at hs
  · rename_i j a r
    split at hs
    · rename_i t w n f hS1
      split at hs
      · rename_i ht
        subst ht
        split at hs
        · rename_i k hk
          cases hs
          intro H locs ls hr hl hS
          obtain ⟨i1, i2, i3⟩ := am_ix_eq hk
          subst i2
          cases w with
          | true =>
            obtain ⟨h2, hty, hcell⟩ := hr.1 a _ hS1
            exact W.cald hx hb hcell ((am_tyIx hty hK).1 _ _) (fun q => by cases q) (by rw [arrV_size]; exact i1) (arrV_read _ _ i3) rfl rfl hd (K H locs ls hr hl hS)
          | false =>
            obtain ⟨h2, hty, cell, g1, g2, g3, g4, g5, g6⟩ := hr.1 a _ hS1
            exact W.cald hx hb g1 g2 g3 (fun q => by rcases q with q | q; exact i1 (Or.inl q); omega) (g6 _ i3) rfl rfl hd (K H locs ls hr hl hS)
        · cases hs
      · cases hs
    · cases hs
  · cases hs
theorem am_S_baload (C : am_ctx p s m args meth c G cc nL oc ini) (hd : decode cc pc = .ok (.baload, 1)) (hn : nx = pc + 1) (hs : am_ald .boolean L nx st h = some (.inl (pc', L', st', h'))) (K : am_gd p l e R s m args below meth c Q G nL n0 s0 c0 pc' L' st' h') : am_gd p l e R s m args below meth c Q G nL n0 s0 c0 pc L st h := by
  obtain ⟨hx, hb, -, hown, hts, hK, hok, -⟩ := C
  subst hn
  unfold am_ald at hs
  split at hs
  · rename_i j a r
    split at hs
    · rename_i t w n f hS1
      split at hs
      · rename_i ht
        subst ht
        split at hs
        · rename_i k hk
          cases hs
          intro H locs ls hr hl hS
          obtain ⟨i1, i2, i3⟩ := am_ix_eq hk
          subst i2
          cases w with
          | true =>
            obtain ⟨h2, hty, hcell⟩ := hr.1 a _ hS1
            exact W.zald hx hb hcell ((am_tyIx hty hK).1 _ _) (fun q => by cases q) (by rw [arrV_size]; exact i1) (arrV_read _ _ i3) rfl rfl hd (K H locs ls hr hl hS)
          | false =>
            obtain ⟨h2, hty, cell, g1, g2, g3, g4, g5, g6⟩ := hr.1 a _ hS1
            exact W.zald hx hb g1 g2 g3 (fun q => by rcases q with q | q; exact i1 (Or.inl q); omega) (g6 _ i3) rfl rfl hd (K H locs ls hr hl hS)
        · cases hs
      · cases hs
    · cases hs
  · cases hs
theorem am_S_laload (C : am_ctx p s m args meth c G cc nL oc ini) (hd : decode cc pc = .ok (.laload, 1)) (hn : nx = pc + 1) (hs : am_ald .long L nx st h = some (.inl (pc', L', st', h'))) (K : am_gd p l e R s m args below meth c Q G nL n0 s0 c0 pc' L' st' h') : am_gd p l e R s m args below meth c Q G nL n0 s0 c0 pc L st h := by
  obtain ⟨hx, hb, -, hown, hts, hK, hok, -⟩ := C
  subst hn
  unfold am_ald at hs
  split at hs
  · rename_i j a r
    split at hs
    · rename_i t w n f hS1
      split at hs
      · rename_i ht
        subst ht
        split at hs
        · rename_i k hk
          cases hs
          intro H locs ls hr hl hS
          obtain ⟨i1, i2, i3⟩ := am_ix_eq hk
          subst i2
          cases w with
          | true =>
            obtain ⟨h2, hty, hcell⟩ := hr.1 a _ hS1
            exact W.lald hx hb hcell ((am_tyIx hty hK).1 _ _) (fun q => by cases q) (by rw [arrV_size]; exact i1) (arrV_read _ _ i3) rfl rfl hd (K H locs ls hr hl hS)
          | false =>
            obtain ⟨h2, hty, cell, g1, g2, g3, g4, g5, g6⟩ := hr.1 a _ hS1
            exact W.lald hx hb g1 g2 g3 (fun q => by rcases q with q | q; exact i1 (Or.inl q); omega) (g6 _ i3) rfl rfl hd (K H locs ls hr hl hS)
        · cases hs
      · cases hs
    · cases hs
  · cases hs
theorem am_S_aaload (C : am_ctx p s m args meth c G cc nL oc ini) (hd : decode cc pc = .ok (.aaload, 1)) (hn : nx = pc + 1) (hs : am_aldq L nx st h = some (.inl (pc', L', st', h'))) (K : am_gd p l e R s m args below meth c Q G nL n0 s0 c0 pc' L' st' h') : am_gd p l e R s m args below meth c Q G nL n0 s0 c0 pc L st h := by
  obtain ⟨hx, hb, -, hown, hts, hK, hok, -⟩ := C
  subst hn
  unfold am_aldq at hs
  split at hs
  · rename_i j a r
    split at hs
    · rename_i Cn n f hS1
      split at hs
      · rename_i k hk
        cases hs
        intro H locs ls hr hl hS
        obtain ⟨i1, i2, i3⟩ := am_ix_eq hk
        subst i2
        obtain ⟨h2, hty, hcell⟩ := hr.1 a _ hS1
        exact W.aald (ty := .object Cn) hx hb hcell ((am_tyIx hty hK).1 _ _) rfl (fun q => by cases q) (by rw [arrV_size]; exact i1) (arrV_read _ _ i3) rfl rfl hd (K H locs ls hr hl hS)
      · cases hs
    · cases hs
  · cases hs
theorem am_av_up {μ : am_M2} {ν : am_N2} {a k j : Nat} {x : Int32} {ty : FieldType} {f : Nat → Option Nat} (hjk : ¬ j = k) : am_av (am_up μ a k x) ν a ty f j = am_av μ ν a ty f j := by
  unfold am_av
  simp [am_up, hjk]
theorem am_av_upL {μ : am_M2} {ν : am_N2} {a k j : Nat} {x : Int64} {ty : FieldType} {f : Nat → Option Nat} (hjk : ¬ j = k) : am_av μ (am_upL ν a k x) a ty f j = am_av μ ν a ty f j := by
  unfold am_av
  simp [am_upL, hjk]
theorem am_S_iastore (C : am_ctx p s m args meth c G cc nL oc ini) (hd : decode cc pc = .ok (.iastore, 1)) (hn : nx = pc + 1) (hs : am_ast .int L nx st h = some (.inl (pc', L', st', h'))) (K : am_gd p l e R s m args below meth c Q G nL n0 s0 c0 pc' L' st' h') : am_gd p l e R s m args below meth c Q G nL n0 s0 c0 pc L st h := by
  obtain ⟨hx, hb, -, hown, hts, hK, hok, -⟩ := C
  subst hn
  unfold am_ast at hs
  split at hs
  · rename_i x j a r
    split at hs
    · rename_i t n f hS1
      split at hs
      · rename_i ht
        subst ht
        split at hs
        · rename_i k hk
          split at hs
          · rename_i hok2
            cases hs
            intro H locs ls hr hl hS
            obtain ⟨i1, i2, i3⟩ := am_ix_eq hk
            obtain ⟨h2, hty, hcell⟩ := hr.1 a _ hS1
            have hnr : Value.int x = Value.int x := rfl
            refine W.iast hx hb hcell ((am_tyIx hty hK).1 _ _) (fun q => by cases q) (by rw [arrV_size, i2]; rw [i2] at i1; exact i1) rfl rfl hd fun H1 g1 g2 g3 => K H1 _ ls (am_put hok hr h2 g2 g3 rfl (fun _ _ => rfl) (by rw [hS1]; exact fun y => by cases y) (fun j' hj => ?_) (fun _ _ => rfl) fun y hy => ?_) hl (hS.put g2 g3 (am_inA hok h2))
            · funext k'
              show am_up h.2.2.2.1 a k x j' k' = _
              simp [am_up, hj]
            · have hy : h.2.2.1 a = some y := hy
              rw [hS1] at hy
              cases hy
              refine ⟨h2, hty, ?_⟩
              rw [g1, i2, hnr, arrV_store]
              congr 2
              funext j'
              show updV _ k (Value.int x) j' = am_rv G.1 (am_av (am_up h.2.2.2.1 a k x) h.2.2.2.2 a _ f j')
              unfold updV
              by_cases hjk : j' = k
              · subst hjk
                simp [am_av, am_up, am_rv]
              · rw [if_neg hjk, am_av_up hjk]
          · cases hs
        · cases hs
      · cases hs
    · cases hs
  · cases hs
theorem am_S_castore (C : am_ctx p s m args meth c G cc nL oc ini) (hd : decode cc pc = .ok (.castore, 1)) (hn : nx = pc + 1) (hs : am_ast .char L nx st h = some (.inl (pc', L', st', h'))) (K : am_gd p l e R s m args below meth c Q G nL n0 s0 c0 pc' L' st' h') : am_gd p l e R s m args below meth c Q G nL n0 s0 c0 pc L st h := by
  obtain ⟨hx, hb, -, hown, hts, hK, hok, -⟩ := C
  subst hn
  unfold am_ast at hs
  split at hs
  · rename_i x j a r
    split at hs
    · rename_i t n f hS1
      split at hs
      · rename_i ht
        subst ht
        split at hs
        · rename_i k hk
          split at hs
          · rename_i hok2
            cases hs
            intro H locs ls hr hl hS
            obtain ⟨i1, i2, i3⟩ := am_ix_eq hk
            obtain ⟨h2, hty, hcell⟩ := hr.1 a _ hS1
            have hnr : narrow .char (.int x) = Value.int x := by simpa [am_iok] using hok2
            refine W.cast hx hb hcell ((am_tyIx hty hK).1 _ _) (fun q => by cases q) (by rw [arrV_size, i2]; rw [i2] at i1; exact i1) rfl rfl hd fun H1 g1 g2 g3 => K H1 _ ls (am_put hok hr h2 g2 g3 rfl (fun _ _ => rfl) (by rw [hS1]; exact fun y => by cases y) (fun j' hj => ?_) (fun _ _ => rfl) fun y hy => ?_) hl (hS.put g2 g3 (am_inA hok h2))
            · funext k'
              show am_up h.2.2.2.1 a k x j' k' = _
              simp [am_up, hj]
            · have hy : h.2.2.1 a = some y := hy
              rw [hS1] at hy
              cases hy
              refine ⟨h2, hty, ?_⟩
              rw [g1, i2, hnr, arrV_store]
              congr 2
              funext j'
              show updV _ k (Value.int x) j' = am_rv G.1 (am_av (am_up h.2.2.2.1 a k x) h.2.2.2.2 a _ f j')
              unfold updV
              by_cases hjk : j' = k
              · subst hjk
                simp [am_av, am_up, am_rv]
              · rw [if_neg hjk, am_av_up hjk]
          · cases hs
        · cases hs
      · cases hs
    · cases hs
  · cases hs
theorem am_S_bastore (C : am_ctx p s m args meth c G cc nL oc ini) (hd : decode cc pc = .ok (.bastore, 1)) (hn : nx = pc + 1) (hs : am_ast .boolean L nx st h = some (.inl (pc', L', st', h'))) (K : am_gd p l e R s m args below meth c Q G nL n0 s0 c0 pc' L' st' h') : am_gd p l e R s m args below meth c Q G nL n0 s0 c0 pc L st h := by
  obtain ⟨hx, hb, -, hown, hts, hK, hok, -⟩ := C
  subst hn
  unfold am_ast at hs
  split at hs
  · rename_i x j a r
    split at hs
    · rename_i t n f hS1
      split at hs
      · rename_i ht
        subst ht
        split at hs
        · rename_i k hk
          split at hs
          · rename_i hok2
            cases hs
            intro H locs ls hr hl hS
            obtain ⟨i1, i2, i3⟩ := am_ix_eq hk
            obtain ⟨h2, hty, hcell⟩ := hr.1 a _ hS1
            have hnr : narrow .boolean (.int x) = Value.int x := by
              have z : x = 0 ∨ x = 1 := by simpa [am_iok] using hok2
              rcases z with rfl | rfl <;> decide
            refine W.zast hx hb hcell ((am_tyIx hty hK).1 _ _) (fun q => by cases q) (by rw [arrV_size, i2]; rw [i2] at i1; exact i1) rfl rfl hd fun H1 g1 g2 g3 => K H1 _ ls (am_put hok hr h2 g2 g3 rfl (fun _ _ => rfl) (by rw [hS1]; exact fun y => by cases y) (fun j' hj => ?_) (fun _ _ => rfl) fun y hy => ?_) hl (hS.put g2 g3 (am_inA hok h2))
            · funext k'
              show am_up h.2.2.2.1 a k x j' k' = _
              simp [am_up, hj]
            · have hy : h.2.2.1 a = some y := hy
              rw [hS1] at hy
              cases hy
              refine ⟨h2, hty, ?_⟩
              rw [g1, i2, hnr, arrV_store]
              congr 2
              funext j'
              show updV _ k (Value.int x) j' = am_rv G.1 (am_av (am_up h.2.2.2.1 a k x) h.2.2.2.2 a _ f j')
              unfold updV
              by_cases hjk : j' = k
              · subst hjk
                simp [am_av, am_up, am_rv]
              · rw [if_neg hjk, am_av_up hjk]
          · cases hs
        · cases hs
      · cases hs
    · cases hs
  · cases hs
theorem am_S_lastore (C : am_ctx p s m args meth c G cc nL oc ini) (hd : decode cc pc = .ok (.lastore, 1)) (hn : nx = pc + 1) (hs : am_astL L nx st h = some (.inl (pc', L', st', h'))) (K : am_gd p l e R s m args below meth c Q G nL n0 s0 c0 pc' L' st' h') : am_gd p l e R s m args below meth c Q G nL n0 s0 c0 pc L st h := by
  obtain ⟨hx, hb, -, hown, hts, hK, hok, -⟩ := C
  subst hn
  unfold am_astL at hs
  split at hs
  · rename_i x j a r
    split at hs
    · rename_i n f hS1
      split at hs
      · rename_i k hk
        cases hs
        intro H locs ls hr hl hS
        obtain ⟨i1, i2, i3⟩ := am_ix_eq hk
        obtain ⟨h2, hty, hcell⟩ := hr.1 a _ hS1
        refine W.last hx hb hcell ((am_tyIx hty hK).1 _ _) (fun q => by cases q) (by rw [arrV_size, i2]; rw [i2] at i1; exact i1) rfl rfl hd fun H1 g1 g2 g3 => K H1 _ ls (am_put hok hr h2 g2 g3 rfl (fun _ _ => rfl) (by rw [hS1]; exact fun y => by cases y) (fun _ _ => rfl) (fun j' hj => ?_) fun y hy => ?_) hl (hS.put g2 g3 (am_inA hok h2))
        · funext k'
          show am_upL h.2.2.2.2 a k x j' k' = _
          simp [am_upL, hj]
        · have hy : h.2.2.1 a = some y := hy
          rw [hS1] at hy
          cases hy
          refine ⟨h2, hty, ?_⟩
          rw [g1, i2, arrV_store]
          congr 2
          funext j'
          show updV _ k (Value.long x) j' = am_rv G.1 (am_av h.2.2.2.1 (am_upL h.2.2.2.2 a k x) a _ f j')
          unfold updV
          by_cases hjk : j' = k
          · subst hjk
            simp [am_av, am_upL, am_rv]
          · rw [if_neg hjk, am_av_upL hjk]
      · cases hs
    · cases hs
  · cases hs
theorem am_S_aastore (C : am_ctx p s m args meth c G cc nL oc ini) (hd : decode cc pc = .ok (.aastore, 1)) (hn : nx = pc + 1) (hs : am_astq L nx st h = some (.inl (pc', L', st', h'))) (K : am_gd p l e R s m args below meth c Q G nL n0 s0 c0 pc' L' st' h') : am_gd p l e R s m args below meth c Q G nL n0 s0 c0 pc L st h := by
  obtain ⟨hx, hb, -, hown, hts, hK, hok, -⟩ := C
  subst hn
  unfold am_astq at hs
  split at hs
  · rename_i v j a r
    split at hs
    · rename_i Cn n f ci ks hS1 hS2
      split at hs
      · rename_i hcn
        split at hs
        · rename_i k hk
          cases hs
          intro H locs ls hr hl hS
          obtain ⟨i1, i2, i3⟩ := am_ix_eq hk
          obtain ⟨h2, hty, hcell⟩ := hr.1 a _ hS1
          obtain ⟨hv2, q, hq, hv3, cellV, v1, v2, v3, -⟩ := hr.1 v _ hS2
          rw [hq] at hcn
          have hcn : q.1 = Cn := Option.some.inj hcn
          subst hcn
          obtain ⟨kA, comp, k1, k2, k3, -⟩ := (am_tyIx hty hK).2
          have hcls := (hK.1.1 ci q hq).2
          have hcomp : comp = G.2.1 ci := Option.some.inj (k3.symm.trans hcls.1)
          subst hcomp
          obtain ⟨kC, hkC, -⟩ := hcls.2
          refine W.aast hx hb hcell (fun q h => by cases h) (fun h => by cases h) k1 k2 rfl hkC ⟨fun q => i1 (Or.inl q), by rw [arrV_size, i2]; exact i3⟩ v1 (fun q h => by rw [v3] at h; cases h) (by rw [v2]; exact hkC) (by rw [v2]; exact va_assign hcls) rfl rfl hd fun H1 g1 g2 g3 => K H1 _ ls (am_put hok hr h2 g2 g3 rfl (fun j' hj => ?_) (by rw [hS1]; exact fun y => by cases y) (fun _ _ => rfl) (fun _ _ => rfl) fun y hy => ?_) hl (hS.put g2 g3 (am_inA hok h2))
          · show am_upS h.2.2.1 a _ j' = _
            simp [am_upS, hj]
          · have hy : am_upS h.2.2.1 a (.inl (.object q.1, true, n, va_up f k (some v))) a = some y := hy
            simp [am_upS] at hy
            subst hy
            refine ⟨h2, hty, ?_⟩
            rw [g1, i2, arrV_store]
            congr 2
            funext j'
            show updV _ k (Value.ref (G.1 v)) j' = am_rv G.1 (am_av h.2.2.2.1 h.2.2.2.2 a (.object q.1) (va_up f k (some v)) j')
            unfold updV
            by_cases hjk : j' = k
            · subst hjk
              simp [am_av, va_up, va_rf, am_rv]
            · rw [if_neg hjk]
              simp [am_av, va_up, hjk]
        · cases hs
      · cases hs
    · cases hs
  · cases hs
theorem am_S_alen (C : am_ctx p s m args meth c G cc nL oc ini) (hd : decode cc pc = .ok (.arraylength, 1)) (hn : nx = pc + 1) (hs : am_alen L nx st h = some (.inl (pc', L', st', h'))) (K : am_gd p l e R s m args below meth c Q G nL n0 s0 c0 pc' L' st' h') : am_gd p l e R s m args below meth c Q G nL n0 s0 c0 pc L st h := by
  obtain ⟨hx, hb, -, hown, hts, hK, hok, -⟩ := C
  subst hn
  unfold am_alen at hs
  split at hs
  · rename_i a r
    split at hs
    · rename_i t w n f hS1
      cases hs
      intro H locs ls hr hl hS
      cases w with
      | true =>
        obtain ⟨h2, hty, hcell⟩ := hr.1 a _ hS1
        exact W.alen (n := Int32.ofNat n) hx hb hcell ((am_tyIx hty hK).1 _ _) (by rw [arrV_size]) rfl rfl hd (K H locs ls hr hl hS)
      | false =>
        obtain ⟨h2, hty, cell, g1, g2, g3, g4, g5, g6⟩ := hr.1 a _ hS1
        exact W.alen (n := Int32.ofNat n) hx hb g1 g2 g5 rfl rfl hd (K H locs ls hr hl hS)
    · cases hs
  · cases hs
theorem am_S_getstatic (C : am_ctx p s m args meth c G cc nL oc ini) (ho : oc = 5) (hd : decode cc pc = .ok (.getstatic 74, 3)) (hn : nx = pc + 3) (hs : am_n nx L (.ref 1 :: st) h = some (.inl (pc', L', st', h'))) (K : am_gd p l e R s m args below meth c Q G nL n0 s0 c0 pc' L' st' h') : am_gd p l e R s m args below meth c Q G nL n0 s0 c0 pc L st h := by
  obtain ⟨hx, hb, -, hown, hts, hK, hok, -⟩ := C
  subst hn
  subst ho
  cases hs
  intro H locs ls hr hl hS
  obtain ⟨cf, kf, fi, f, a, cell, z1, z2, z3, z4, z5, z6, z7, z8⟩ := hr.2.2.2
  have hl0 : va_Nw (.fieldLinkNest "StoneSecrets$Tape" 74 "StoneSecrets" "LANGUAGE" "[J" "StoneSecrets") s := hK.2.1 _ (by unfold am_nw; exact List.mem_append_right _ List.mem_cons_self)
  exact va_WgetsN hx hb hown (va_Nw.use rfl hl0) z1 z2 z3 z4 z5 (fun e => by rw [e] at z6; cases z6) z7 rfl hd (K H locs ls hr hl hS)
/-- a cell of ours is made: cells and slots are counted -/
theorem am_new_S {H H1 : Heap} {locs : List Loc} (hS : va_S (am_A G) s.heap H locs) (e : H1.size = H.size + 1) (o : ∀ q, q < H.size → H1[q]? = H[q]?) : va_S (am_A G) s.heap H1 locs :=
  ⟨Nat.le_trans hS.1 (by omega), fun x h1 h2 => (o x (Nat.lt_of_lt_of_le h1 hS.1)).trans (hS.2.1 x h1 h2), hS.2.2⟩
theorem am_k0_ov {ci N : Nat} {q : vw_C} (hq : am_cl[ci]? = some q) (hN : q.2.2 = N) (μ : am_M2) (ν : am_N2) (i : Nat) {k : Nat} (hk : k < N) : defaultValue (am_ty ci k) = am_rv G.1 (am_ov (am_z μ i) (am_zL ν i) i (am_k0 ci) k) := by
  subst hN
  obtain ⟨-, h2⟩ := (am_clok hq).2.2.2.2.2.2.1
  obtain ⟨h3, h4⟩ := h2 k hk
  unfold am_ov
  rw [h3]
  rcases h4 with h4 | h4 | h4 | ⟨t, h4⟩ | ⟨t, h4⟩ <;> rw [h4] <;> simp [am_dft, am_fv, am_z, am_zL, am_rv, va_rf, defaultValue]
theorem am_S_new (C : am_ctx p s m args meth c G cc nL oc ini) {i ci N : Nat} {q0 : vw_C} (hq0 : am_cl[ci]? = some q0) (hN : q0.2.2 = N) (hw : Cond.classLink (am_own oc) i q0.1 ∈ am_gw) (hd : decode cc pc = .ok (.new i, 3)) (hn : nx = pc + 3) (hs : am_new ci N L nx st h = some (.inl (pc', L', st', h')))
    (hfit : c0.1 + (h'.1 - n0) ≤ R.cells ∧ c0.2 + (h'.2.1 - s0) ≤ R.slots) (h0 : n0 ≤ h.1 ∧ s0 ≤ h.2.1) (K : am_gd p l e R s m args below meth c Q G nL n0 s0 c0 pc' L' st' h') : am_gd p l e R s m args below meth c Q G nL n0 s0 c0 pc L st h := by
  obtain ⟨hx, hb, -, hown, hts, hK, hok, -⟩ := C
  subst hn
  subst hN
  unfold am_new at hs
  split at hs
  · cases hs
  · rename_i hne
    cases hs
    intro H locs ls hr hl hS
    have hcl := am_clok hq0
    have hKn := hK.1.1 ci _ hq0
    have hsz : H.size = G.1 h.1 := by
      rcases hr.2.1 with z | ⟨z1, z2, -⟩
      · exact absurd z hne
      · rw [hok.2.2 _ z1]; exact z2
    have f1 : c0.1 + (h.1 - n0) + 1 = c0.1 + ((h.1 + 1) - n0) := by omega
    have f2 : c0.2 + (h.2.1 - s0) + q0.2.2 = c0.2 + ((h.2.1 + q0.2.2) - s0) := by omega
    have g1 : c0.1 + ((h.1 + 1) - n0) ≤ R.cells := hfit.1
    have g2 : c0.2 + ((h.2.1 + q0.2.2) - s0) ≤ R.slots := hfit.2
    refine W.newcK hx hb hown (hts _ hw) (hts _ hcl.2.2.2.2.1) (hts _ hcl.2.2.2.2.2.1) rfl hd (by rw [f1]; exact g1) (by rw [f2]; exact g2) hKn.2.1 hsz fun H1 kC hkC e1 e2 e3 => ?_
    rw [← hsz] at e2 e3
    rw [f1, f2]
    refine K H1 locs ls (am_born hok hr hne e2 e3 rfl (fun j hj => ?_) (fun j hj => ?_) (fun j hj => ?_) fun y hy => ?_) hl (am_new_S hS e2 e3)
    · show am_upS h.2.2.1 h.1 _ j = _
      simp [am_upS, hj]
    · funext k'
      show am_z h.2.2.2.1 h.1 j k' = _
      simp [am_z, hj]
    · funext k'
      show am_zL h.2.2.2.2 h.1 j k' = _
      simp [am_zL, hj]
    · have hy : am_upS h.2.2.1 h.1 (.inr (ci, am_k0 ci)) h.1 = some y := hy
      simp [am_upS] at hy
      subst hy
      refine ⟨by rcases hr.2.1 with z | z; exact absurd z hne; exact z.1, q0, hq0, hcl.2.2.2.2.2.2.1.1, ?_⟩
      exact (u_born (am_ty ci) hts hcl.1 hKn hkC e1 hcl.2.2.1).to fun k hk => am_k0_ov hq0 rfl _ _ _ hk
theorem am_newa_at {ty : FieldType} {n i : Nat} {U : State} {H : Heap} (h2 : 2 ≤ i) (hty : ty ∈ am_tys) (μ : am_M2) (ν : am_N2) (hc : H[G.1 i]? = some (arrV (G.2.2.2.1 ty) n (fun _ => defaultValue ty))) : am_at G U H (am_z μ i) (am_zL ν i) i (.inl (ty, true, n, fun _ => none)) := by
  refine ⟨h2, hty, ?_⟩
  rw [hc]
  congr 2
  funext j
  simp only [am_tys, List.mem_cons, List.not_mem_nil, or_false] at hty
  rcases hty with rfl | rfl | rfl | rfl | rfl | rfl <;> simp [am_av, am_z, am_zL, am_rv, va_rf, defaultValue]
theorem am_ab {ty : FieldType} {n : Nat} (hn : n < 60000) (h : ty ∈ am_tys) : n * componentBytes ty ≤ 536870912 := by
  simp only [am_tys, List.mem_cons, List.not_mem_nil, or_false] at h
  rcases h with rfl | rfl | rfl | rfl | rfl | rfl <;> simp only [componentBytes] <;> omega
theorem am_S_newarray (C : am_ctx p s m args meth c G cc nL oc ini) {t : ArrayType} {ty : FieldType} (hty : am_at4 t = some ty) (hd : decode cc pc = .ok (.newarray t, 2)) (hn : nx = pc + 2) (hs : am_newa ty L nx st h = some (.inl (pc', L', st', h')))
    (hfit : c0.1 + (h'.1 - n0) ≤ R.cells ∧ c0.2 + (h'.2.1 - s0) ≤ R.slots) (h0 : n0 ≤ h.1 ∧ s0 ≤ h.2.1) (K : am_gd p l e R s m args below meth c Q G nL n0 s0 c0 pc' L' st' h') : am_gd p l e R s m args below meth c Q G nL n0 s0 c0 pc L st h := by
  obtain ⟨hx, hb, -, hown, hts, hK, hok, -⟩ := C
  subst hn
  have htt : newarray.typeOf t = ty ∧ (ty = .int ∨ ty = .long ∨ ty = .char ∨ ty = .boolean) := by
    cases t <;> simp [am_at4] at hty <;> subst hty <;> exact ⟨rfl, by simp⟩
  obtain ⟨htt, hcs⟩ := htt
  have hin : ty ∈ am_tys := by rcases hcs with rfl | rfl | rfl | rfl <;> simp [am_tys]
  have hac := hts _ (am_ac_in hcs)
  subst htt
  unfold am_newa at hs
  split at hs
  · rename_i cv r
    split at hs
    · cases hs
    · rename_i hne
      cases hs
      intro H locs ls hr hl hS
      have hne1 : h.1 ≠ 0 := fun z => hne (Or.inl z)
      have hsz : H.size = G.1 h.1 := by
        rcases hr.2.1 with z | ⟨z1, z2, -⟩
        · exact absurd z hne1
        · rw [hok.2.2 _ z1]; exact z2
      have f1 : c0.1 + (h.1 - n0) + 1 = c0.1 + ((h.1 + 1) - n0) := by omega
      have f2 : c0.2 + (h.2.1 - s0) + cv.toNatClampNeg = c0.2 + ((h.2.1 + cv.toNatClampNeg) - s0) := by omega
      have g1 : c0.1 + ((h.1 + 1) - n0) ≤ R.cells := hfit.1
      have g2 : c0.2 + ((h.2.1 + cv.toNatClampNeg) - s0) ≤ R.slots := hfit.2
      refine va_newaK hx hb hac rfl hd rfl (fun z => hne (Or.inr (Or.inl z))) rfl (am_ab (Nat.not_le.mp fun z => hne (Or.inr (Or.inr z))) hin) (by rw [f1]; exact g1) (by rw [f2]; exact g2) hsz fun H1 cA e1 e2 e3 hAr hNm => ?_
      rw [← hsz] at e2 e3
      have hcA : cA = G.2.2.2.1 (newarray.typeOf t) := by
        have z := (am_tyIx hin hK).2
        rcases hcs with z1 | z1 | z1 | z1 <;> rw [z1] at z hNm ⊢ <;> exact Option.some.inj (hNm.symm.trans z)
      rw [hcA] at e1
      rw [f1, f2]
      refine K H1 locs ls (am_born hok hr hne1 e2 e3 rfl (fun j hj => ?_) (fun j hj => ?_) (fun j hj => ?_) fun y hy => ?_) hl (am_new_S hS e2 e3)
      · show am_upS h.2.2.1 h.1 _ j = _
        simp [am_upS, hj]
      · funext k'
        show am_z h.2.2.2.1 h.1 j k' = _
        simp [am_z, hj]
      · funext k'
        show am_zL h.2.2.2.2 h.1 j k' = _
        simp [am_zL, hj]
      · have hy : am_upS h.2.2.1 h.1 (.inl (newarray.typeOf t, true, cv.toNatClampNeg, fun _ => none)) h.1 = some y := hy
        simp [am_upS] at hy
        subst hy
        exact am_newa_at (by rcases hr.2.1 with z | z; exact absurd z hne1; exact z.1) hin _ _ e1
  · cases hs
theorem am_S_anewarray (C : am_ctx p s m args meth c G cc nL oc ini) {i ci : Nat} {q0 : vw_C} (hq0 : am_cl[ci]? = some q0) (hci : ci = 7 ∨ ci = 4) (hw : Cond.classLink (am_own oc) i q0.1 ∈ am_gw) (hd : decode cc pc = .ok (.anewarray i, 3)) (hn : nx = pc + 3) (hs : am_newa (.object q0.1) L nx st h = some (.inl (pc', L', st', h')))
    (hfit : c0.1 + (h'.1 - n0) ≤ R.cells ∧ c0.2 + (h'.2.1 - s0) ≤ R.slots) (h0 : n0 ≤ h.1 ∧ s0 ≤ h.2.1) (K : am_gd p l e R s m args below meth c Q G nL n0 s0 c0 pc' L' st' h') : am_gd p l e R s m args below meth c Q G nL n0 s0 c0 pc L st h := by
  obtain ⟨hx, hb, -, hown, hts, hK, hok, -⟩ := C
  subst hn
  have hin : (FieldType.object q0.1) ∈ am_tys ∧ va_AO q0.1 s := by
    rcases hci with rfl | rfl
    · cases hq0; exact ⟨by simp [am_tys, RX7], hK.2.2.1⟩
    · cases hq0; exact ⟨by simp [am_tys, RX4], hK.2.2.2⟩
  obtain ⟨hin, hao⟩ := hin
  unfold am_newa at hs
  split at hs
  · rename_i cv r
    split at hs
    · cases hs
    · rename_i hne
      cases hs
      intro H locs ls hr hl hS
      have hne1 : h.1 ≠ 0 := fun z => hne (Or.inl z)
      have hsz : H.size = G.1 h.1 := by
        rcases hr.2.1 with z | ⟨z1, z2, -⟩
        · exact absurd z hne1
        · rw [hok.2.2 _ z1]; exact z2
      have f1 : c0.1 + (h.1 - n0) + 1 = c0.1 + ((h.1 + 1) - n0) := by omega
      have f2 : c0.2 + (h.2.1 - s0) + cv.toNatClampNeg = c0.2 + ((h.2.1 + cv.toNatClampNeg) - s0) := by omega
      have g1 : c0.1 + ((h.1 + 1) - n0) ≤ R.cells := hfit.1
      have g2 : c0.2 + ((h.2.1 + cv.toNatClampNeg) - s0) ≤ R.slots := hfit.2
      have hlt : cv.toNatClampNeg < 60000 := Nat.not_le.mp fun z => hne (Or.inr (Or.inr z))
      refine W.anew hx hb hown (hts _ hw) (va_AO.use hao) rfl hd rfl (fun z => hne (Or.inr (Or.inl z))) (by omega) (by rw [f1]; exact g1) (by rw [f2]; exact g2) fun cA kA comp r1 r2 r3 r4 => ?_
      generalize hH1 : H.push ({ cls := cA, slots := Array.replicate cv.toNatClampNeg .null, vm := .none } : Cell) = H1
      have e2 : H1.size = H.size + 1 := by rw [← hH1, Array.size_push]
      have e1 : H1[H.size]? = some (arrV cA cv.toNatClampNeg (fun _ => .null)) := by rw [← hH1, Array.getElem?_push_size, ← arrV_new]
      have e3 : ∀ q : Nat, q < H.size → H1[q]? = H[q]? := fun q hq => by rw [← hH1, Array.getElem?_push, if_neg (Nat.ne_of_lt hq)]
      have hcA : cA = G.2.2.2.1 (.object q0.1) := by
        obtain ⟨_, _, -, -, -, z⟩ := (am_tyIx hin hK).2
        exact Option.some.inj (r1.symm.trans z)
      rw [hcA] at e1
      rw [f1, f2, hsz]
      rw [hsz] at e1
      refine K H1 locs ls (am_born hok hr hne1 e2 e3 rfl (fun j hj => ?_) (fun j hj => ?_) (fun j hj => ?_) fun y hy => ?_) hl (am_new_S hS e2 e3)
      · show am_upS h.2.2.1 h.1 _ j = _
        simp [am_upS, hj]
      · funext k'
        show am_z h.2.2.2.1 h.1 j k' = _
        simp [am_z, hj]
      · funext k'
        show am_zL h.2.2.2.2 h.1 j k' = _
        simp [am_zL, hj]
      · have hy : am_upS h.2.2.1 h.1 (.inl (.object q0.1, true, cv.toNatClampNeg, fun _ => none)) h.1 = some y := hy
        simp [am_upS] at hy
        subst hy
        exact am_newa_at (by rcases hr.2.1 with z | z; exact absurd z hne1; exact z.1) hin _ _ e1
  · cases hs
end AMA
