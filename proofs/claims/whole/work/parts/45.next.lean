abbrev Fm : Type := Nat × (Nat → Option Nat)
def mg (ms : List Nat) (i : Nat) : Nat := ms.getD i 0
theorem mg_eq {ms : List Nat} {i : Nat} (h : i < ms.length) : mg ms i = ms[i] := by simp [mg, List.getD, h]
def remL (V : sVal) (ms : List Nat) : List Fm → List (Nat → Option Nat)
  | [] => []
  | f :: fs => (bl f.1).flatMap (fun p => waysL V (ms.drop (fs.length + 1)) (fup f.2 (mg ms fs.length) (some p))) ++ remL V ms fs
def wB : Nat → Nat
  | 0 => 9
  | m + 1 => 1 + 8 * (1 + wB m)
def wC (m : Nat) : Nat := match m with
  | 0 => 0
  | m + 1 => wB m
theorem wB_C (m : Nat) : wB m = 1 + 8 * (1 + wC m) := by cases m <;> rfl
def wrk (M : Nat) : List Fm → Nat
  | [] => 0
  | f :: fs => 1 + (bl f.1).length * (1 + wC (M - fs.length - 1)) + wrk M fs
def lnk (ms : List Nat) (fs : List Fm) (pl : Nat → Option Nat) : Prop := match fs with
  | [] => True
  | g :: gs => ∃ p, pl = fup g.2 (mg ms gs.length) (some p)
def xFs (V : sVal) (ms : List Nat) (μ : am_M2) : List Fm → Prop
  | [] => True
  | f :: fs => μ 122 fs.length = nI f.1 ∧ f.1 < 256 ∧ fs.length < ms.length ∧ (∀ p, p ∈ bl f.1 → p ∈ bl (sOpen V f.2 (mg ms fs.length))) ∧ (∀ i, fs.length ≤ i → i < ms.length → f.2 (mg ms i) = none) ∧ pOk V f.2 ∧ lnk ms fs f.2 ∧ xFs V ms μ fs
theorem xFs_row {V : sVal} {ms : List Nat} {μ μ' : am_M2} : ∀ (fs : List Fm), (∀ k, k < fs.length → μ' 122 k = μ 122 k) → xFs V ms μ fs → xFs V ms μ' fs
  | [], _, _ => trivial
  | f :: fs, h, ⟨h1, h2⟩ => ⟨(h fs.length (by simp)).trans h1, h2.1, h2.2.1, h2.2.2.1, h2.2.2.2.1, h2.2.2.2.2.1, h2.2.2.2.2.2.1, xFs_row fs (fun k hk => h k (by simp; omega)) h2.2.2.2.2.2.2⟩
/-- the spots, but for the one that is tried -/
def xSp (ms : List Nat) (μ : am_M2) (fs : List Fm) : Prop := match fs with
  | [] => True
  | f :: gs => ∀ s, s < 6 → s ≠ mg ms gs.length → μ 123 s = sn_spot (f.2 s)
/-- behind a WAY: those that are left -/
def xIt (V : sVal) (ms : List Nat) (μ : am_M2) (ws : List (Nat → Option Nat)) : Prop := xMv μ ms ∧ ((μ 120 6 = nI 1 ∧ ∃ fs, fs.length = ms.length ∧ xFs V ms μ fs ∧ xSp ms μ fs ∧ remL V ms fs = ws ∧ wrk ms.length fs ≤ 1000000) ∨ (μ 120 6 = nI 0 ∧ ∃ pl, ws = waysL V ms pl ∧ pOk V pl ∧ (∀ i, i < ms.length → pl (mg ms i) = none) ∧ ∀ s, s < 6 → μ 123 s = sn_spot (pl s)))
def dI (k : Nat) : Int32 := match k with
  | 0 => -1
  | k + 1 => nI k
def msOk (V : sVal) (ms : List Nat) : Prop := ms.length ≤ 6 ∧ (∀ i, i < ms.length → mg ms i < vN V) ∧ ∀ i j, i < ms.length → j < ms.length → mg ms i = mg ms j → i = j
theorem xMv_g {μ : am_M2} {ms : List Nat} (h : xMv μ ms) {i : Nat} (hi : i < ms.length) : μ 121 i = nI (mg ms i) := by rw [mg_eq hi]; exact h.2 i hi
def nQ (V : sVal) (ms : List Nat) (n : Nat) (ν : am_N2) (μ : am_M2) (ws : List (Nat → Option Nat)) (y : am_R) : Prop := ∃ μ', frW μ μ' ∧ ((ws = [] ∧ y = (some (.int (sB false)), am_hp n μ' ν)) ∨ (∃ pl vs, ws = pl :: vs ∧ y = (some (.int (sB true)), am_hp n μ' ν) ∧ xIt V ms μ' vs ∧ ∀ s, s < 6 → μ' 123 s = sn_spot (pl s)))
theorem s_enter0 (d : Nat) (n M k : Nat) (μ : am_M2) (ν : am_N2) (hM : μ 120 5 = nI M) (hk : M ≤ k) (hk2 : k < 2 ^ 31) : am_run (d + 1) 120 [.ref 120, .int (nI k)] (am_hp n μ ν) = some (none, am_hp n μ ν) := by
  refine am_r120 (d := d + 0) (Nat.le_of_ble_eq_true rfl) [some (.ref 120), some (.int (nI k))] rfl ?_
  refine am_q_iload_n rfl rfl ?_
  refine am_q_aload_n rfl rfl ?_
  refine am_q_gi rfl rfl rfl hM ?_
  refine am_q_igeN rfl (by omega) (by omega) (fun c_5 => ?_) (fun c_5 => absurd c_5 (by omega))
  refine am_q_return rfl rfl ?_
  rfl

theorem s_enter1 (d : Nat) (n : Nat) {V : sVal} {ms : List Nat} {μ : am_M2} (ν : am_N2) (hV : xVal μ V) (hO : vOk V) (hM : xMv μ ms) (hm : msOk V ms) {pl : Nat → Option Nat} (k : Nat) (hk : k < ms.length) (hg : ∀ s, s < 6 → μ 123 s = sn_spot (pl s)) (h8 : sPl8 pl) : am_run (d + 4) 120 [.ref 120, .int (nI k)] (am_hp n μ ν) = some (none, am_hp n (am_up μ 122 k (nI (sOpen V pl (mg ms k)))) ν) := by
  have hm1 := hm.1
  refine am_r120 (d := d + 3) (Nat.le_of_ble_eq_true rfl) [some (.ref 120), some (.int (nI k))] rfl ?_
  refine am_q_iload_n rfl rfl ?_
  refine am_q_aload_n rfl rfl ?_
  refine am_q_gi rfl rfl rfl hM.1 ?_
  refine am_q_igeN rfl (by omega) (by omega) (fun c_5 => absurd c_5 (by omega)) (fun c_5 => ?_)
  refine am_q_aload_n rfl rfl ?_
  refine am_q_gr rfl rfl rfl ?_
  refine am_q_iload_n rfl rfl ?_
  refine am_q_aload_n rfl rfl ?_
  refine am_q_gr rfl rfl rfl ?_
  refine am_q_aload_n rfl rfl ?_
  refine am_q_gr rfl rfl rfl ?_
  refine am_q_iload_n rfl rfl ?_
  refine am_q_iald rfl rfl (by first | exact am_ix_nI (by omega) (by omega) | rfl) (xMv_g hM (by omega)) ?_
  refine am_q_aload_n rfl rfl ?_
  refine am_q_gr rfl rfl rfl ?_
  refine am_q_call rfl rfl (s_openTo _ n 123 (mg ms k) ν (hm.2.1 k hk) hV hO rfl hg h8) rfl ?_
  refine am_q_iast rfl rfl (by first | exact am_ix_nI (by omega) (by omega) | rfl) rfl ?_
  refine am_q_return rfl rfl ?_
  rfl

theorem s_nextE (d n i M k : Nat) (μ : am_M2) (ν : am_N2) (hM : μ 120 5 = nI M) (hMb : M < 2 ^ 31) (o3 o4 : Option Value) (Q : am_R → Prop) (hQ : Q (some (.int (sB false)), am_hp n μ ν)) : am_w (d + 4) (Option.some FieldType.boolean) am_g119 122 [some (.ref 120), some (.int (-1)), some (.int (nI i)), o3, o4] [] (am_hp n μ ν) (Q) := by
  refine am_q_iload_n rfl rfl ?_
  refine am_q_aload_n rfl rfl ?_
  refine am_q_gi rfl rfl rfl hM ?_
  refine am_q_icmp_ne rfl (fun c_127 => ?_) (fun c_127 => absurd c_127 (by exact (fun e => by have h1 := nI_toInt hMb; rw [← e] at h1; have h2 : ((-1 : Int32)).toInt = -1 := (by decide); omega)))
  refine am_q_iconst (v := nI 0) rfl rfl ?_
  refine am_q_ireturn rfl rfl rfl ?_
  exact hQ

theorem s_nextT (d n i M : Nat) (μ : am_M2) (ν : am_N2) (hM : μ 120 5 = nI M) (hMb : M < 2 ^ 31) (o3 o4 : Option Value) (Q : am_R → Prop) (hQ : Q (some (.int (sB true)), am_hp n μ ν)) : am_w (d + 4) (Option.some FieldType.boolean) am_g119 122 [some (.ref 120), some (.int (nI M)), some (.int (nI i)), o3, o4] [] (am_hp n μ ν) (Q) := by
  refine am_q_iload_n rfl rfl ?_
  refine am_q_aload_n rfl rfl ?_
  refine am_q_gi rfl rfl rfl hM ?_
  refine am_q_ineN rfl (by omega) (by omega) (fun c_127 => absurd c_127 (by omega)) (fun c_127 => ?_)
  refine am_q_iconst (v := nI 1) rfl rfl ?_
  refine am_q_goto rfl ?_
  refine am_q_ireturn rfl rfl rfl ?_
  exact hQ

theorem s_nextF (d n i M : Nat) (μ : am_M2) (ν : am_N2) (hM : μ 120 5 = nI M) (hMb : M < 2 ^ 31) (hi : i < 2 ^ 31) (o3 o4 : Option Value) (Q : am_R → Prop) (hQ : Q (some (.int (sB true)), am_hp n μ ν)) : am_w (d + 4) (Option.some FieldType.boolean) am_g119 37 [some (.ref 120), some (.int (nI M)), some (.int (nI i)), o3, o4] [] (am_hp n μ ν) (Q) := by
  refine am_q_iload_n rfl rfl ?_
  refine am_q_ldc (v := nI 1000000) rfl rfl ?_
  refine am_q_igeN rfl (by omega) (by omega) (fun c_40 => ?_) (fun c_40 => ?_)
  · exact s_nextT d n i M μ ν hM hMb _ _ Q hQ
  · refine am_q_iload_n rfl rfl ?_
    refine am_q_zltN rfl (by omega) (fun c_44 => absurd c_44 (by omega)) (fun c_44 => ?_)
    refine am_q_iload_n rfl rfl ?_
    refine am_q_aload_n rfl rfl ?_
    refine am_q_gi rfl rfl rfl hM ?_
    refine am_q_igeN rfl (by omega) (by omega) (fun c_52 => ?_) (fun c_52 => absurd c_52 (by omega))
    exact s_nextT d n i M μ ν hM hMb _ _ Q hQ

theorem s_nextX (d n i M : Nat) (μ : am_M2) (ν : am_N2) (hM : μ 120 5 = nI M) (hMb : M < 2 ^ 31) (hi : i < 2 ^ 31) (o3 o4 : Option Value) (Q : am_R → Prop) (hQ : Q (some (.int (sB false)), am_hp n μ ν)) : am_w (d + 4) (Option.some FieldType.boolean) am_g119 37 [some (.ref 120), some (.int (-1)), some (.int (nI i)), o3, o4] [] (am_hp n μ ν) (Q) := by
  refine am_q_iload_n rfl rfl ?_
  refine am_q_ldc (v := nI 1000000) rfl rfl ?_
  refine am_q_igeN rfl (by omega) (by omega) (fun c_40 => ?_) (fun c_40 => ?_)
  · exact s_nextE d n i M 0 μ ν hM hMb _ _ Q hQ
  · refine am_q_iload_n rfl rfl ?_
    refine am_q_if_lt rfl (fun c_44 => ?_) (fun c_44 => absurd c_44 (by decide))
    exact s_nextE d n i M 0 μ ν hM hMb _ _ Q hQ

theorem s_next0 (d k u i : Nat) (n : Nat) {V : sVal} {ms : List Nat} {μ : am_M2} (ν : am_N2) (hV : xVal μ V) (hO : vOk V) (hM : xMv μ ms) (hm : msOk V ms) (hk : k < ms.length) (hi : i < 1000000) (h122 : μ 122 k = nI u) (hu : u < 256) (hz : u = 0) (o3 o4 : Option Value) (Q : am_R → Prop) (K : ∀ o3 o4, am_w (d + 4) (Option.some FieldType.boolean) am_g119 37 [some (.ref 120), some (.int (dI k)), some (.int (nI (i + 1))), o3, o4] [] (am_hp n (am_up (am_up μ 122 k (nI u)) 123 (mg ms k) (nI 0)) ν) Q) : am_w (d + 4) (Option.some FieldType.boolean) am_g119 37 [some (.ref 120), some (.int (nI k)), some (.int (nI i)), o3, o4] [] (am_hp n μ ν) (Q) := by
  subst hz
  have hm1 := hm.1
  have hv := hm.2.1 k hk
  have h6 := hO.1.1
  refine am_q_iload_n rfl rfl ?_
  refine am_q_ldc (v := nI 1000000) rfl rfl ?_
  refine am_q_igeN rfl (by omega) (by omega) (fun c_40 => absurd c_40 (by omega)) (fun c_40 => ?_)
  refine am_q_iload_n rfl rfl ?_
  refine am_q_zltN rfl (by omega) (fun c_44 => absurd c_44 (by omega)) (fun c_44 => ?_)
  refine am_q_iload_n rfl rfl ?_
  refine am_q_aload_n rfl rfl ?_
  refine am_q_gi rfl rfl rfl hM.1 ?_
  refine am_q_igeN rfl (by omega) (by omega) (fun c_52 => absurd c_52 (by omega)) (fun c_52 => ?_)
  refine am_q_aload_n rfl rfl ?_
  refine am_q_gr rfl rfl rfl ?_
  refine am_q_iload_n rfl rfl ?_
  refine am_q_iald rfl rfl (by first | exact am_ix_nI (by omega) (by omega) | rfl) (xMv_g hM (by omega)) ?_
  refine am_q_istore_n [some _, some _, some _, some _, _] rfl (Nat.le_of_ble_eq_true rfl) rfl ?_
  refine am_q_aload_n rfl rfl ?_
  refine am_q_gr rfl rfl rfl ?_
  refine am_q_iload_n rfl rfl ?_
  refine am_q_iald rfl rfl (by first | exact am_ix_nI (by omega) (by omega) | rfl) h122 ?_
  refine am_q_aload_n rfl rfl ?_
  refine am_q_gr rfl rfl rfl ?_
  refine am_q_iload_n rfl rfl ?_
  refine am_q_iald rfl rfl (by first | exact am_ix_nI (by omega) (by omega) | rfl) h122 ?_
  refine am_q_ineg rfl rfl ?_
  refine am_q_iand rfl (show nI 0 &&& -(nI 0) = nI 0 by decide) ?_
  refine am_q_istore [some _, some _, some _, some _, some _] rfl (Nat.le_of_ble_eq_true rfl) rfl ?_
  refine am_q_aload_n rfl rfl ?_
  refine am_q_gr rfl rfl rfl ?_
  refine am_q_iload_n rfl rfl ?_
  refine am_q_dup2ir rfl ?_
  refine am_q_iald rfl rfl (by first | exact am_ix_nI (by omega) (by omega) | rfl) h122 ?_
  refine am_q_iload rfl rfl ?_
  refine am_q_ixor rfl (show nI 0 ^^^ nI 0 = nI 0 by decide) ?_
  refine am_q_iast rfl rfl (by first | exact am_ix_nI (by omega) (by omega) | rfl) rfl ?_
  refine am_q_aload_n rfl rfl ?_
  refine am_q_gr rfl rfl rfl ?_
  refine am_q_iload_n rfl rfl ?_
  refine am_q_iload rfl rfl ?_
  refine am_q_iast rfl rfl (by first | exact am_ix_nI (by omega) (by omega) | rfl) rfl ?_
  refine am_q_iload rfl rfl ?_
  refine am_q_zneN rfl (by omega) (fun c_99 => absurd c_99 (by omega)) (fun c_99 => ?_)
  refine am_q_iinc [some _, some _, some _, some _, some _] rfl (c := -1) rfl rfl (Nat.le_of_ble_eq_true rfl) (show nI k + -1 = dI k by cases k; rfl; exact pk_m1 _) rfl ?_
  refine am_q_goto rfl ?_
  refine am_q_iinc [some _, some _, some _, some _, some _] rfl (c := nI 1) rfl rfl (Nat.le_of_ble_eq_true rfl) (nI_add _ _) rfl ?_
  refine am_q_goto rfl ?_
  exact K _ _

theorem s_next1 (d k u i : Nat) (n : Nat) {V : sVal} {ms : List Nat} {μ : am_M2} (ν : am_N2) (hV : xVal μ V) (hO : vOk V) (hM : xMv μ ms) (hm : msOk V ms) (hk : k < ms.length) (hi : i < 1000000) (h122 : μ 122 k = nI u) (hu : u < 256) (hz : ¬ u = 0) (o3 o4 : Option Value) (Q : am_R → Prop) (h2 : am_H) (he : am_run (d + 4) 120 [.ref 120, .int (nI (k + 1))] (am_hp n (am_up (am_up μ 122 k (nI (u ^^^ 2 ^ lo u))) 123 (mg ms k) (nI (2 ^ lo u))) ν) = some (none, h2)) (K : ∀ o3 o4, am_w (d + 4) (Option.some FieldType.boolean) am_g119 37 [some (.ref 120), some (.int (nI (k + 1))), some (.int (nI (i + 1))), o3, o4] [] h2 Q) : am_w (d + 4) (Option.some FieldType.boolean) am_g119 37 [some (.ref 120), some (.int (nI k)), some (.int (nI i)), o3, o4] [] (am_hp n μ ν) (Q) := by
  have hm1 := hm.1
  have hv := hm.2.1 k hk
  have h6 := hO.1.1
  obtain ⟨q1, q2, q3, q4⟩ := bl_cons u hu hz
  have q5 := Nat.two_pow_pos (lo u)
  have q6 : 2 ^ lo u < 2 ^ 8 := Nat.pow_lt_pow_right (by decide) q4
  refine am_q_iload_n rfl rfl ?_
  refine am_q_ldc (v := nI 1000000) rfl rfl ?_
  refine am_q_igeN rfl (by omega) (by omega) (fun c_40 => absurd c_40 (by omega)) (fun c_40 => ?_)
  refine am_q_iload_n rfl rfl ?_
  refine am_q_zltN rfl (by omega) (fun c_44 => absurd c_44 (by omega)) (fun c_44 => ?_)
  refine am_q_iload_n rfl rfl ?_
  refine am_q_aload_n rfl rfl ?_
  refine am_q_gi rfl rfl rfl hM.1 ?_
  refine am_q_igeN rfl (by omega) (by omega) (fun c_52 => absurd c_52 (by omega)) (fun c_52 => ?_)
  refine am_q_aload_n rfl rfl ?_
  refine am_q_gr rfl rfl rfl ?_
  refine am_q_iload_n rfl rfl ?_
  refine am_q_iald rfl rfl (by first | exact am_ix_nI (by omega) (by omega) | rfl) (xMv_g hM (by omega)) ?_
  refine am_q_istore_n [some _, some _, some _, some _, _] rfl (Nat.le_of_ble_eq_true rfl) rfl ?_
  refine am_q_aload_n rfl rfl ?_
  refine am_q_gr rfl rfl rfl ?_
  refine am_q_iload_n rfl rfl ?_
  refine am_q_iald rfl rfl (by first | exact am_ix_nI (by omega) (by omega) | rfl) h122 ?_
  refine am_q_aload_n rfl rfl ?_
  refine am_q_gr rfl rfl rfl ?_
  refine am_q_iload_n rfl rfl ?_
  refine am_q_iald rfl rfl (by first | exact am_ix_nI (by omega) (by omega) | rfl) h122 ?_
  refine am_q_ineg rfl rfl ?_
  refine am_q_iand rfl q1 ?_
  refine am_q_istore [some _, some _, some _, some _, some _] rfl (Nat.le_of_ble_eq_true rfl) rfl ?_
  refine am_q_aload_n rfl rfl ?_
  refine am_q_gr rfl rfl rfl ?_
  refine am_q_iload_n rfl rfl ?_
  refine am_q_dup2ir rfl ?_
  refine am_q_iald rfl rfl (by first | exact am_ix_nI (by omega) (by omega) | rfl) h122 ?_
  refine am_q_iload rfl rfl ?_
  refine am_q_ixor rfl (sn_xor _ _) ?_
  refine am_q_iast rfl rfl (by first | exact am_ix_nI (by omega) (by omega) | rfl) rfl ?_
  refine am_q_aload_n rfl rfl ?_
  refine am_q_gr rfl rfl rfl ?_
  refine am_q_iload_n rfl rfl ?_
  refine am_q_iload rfl rfl ?_
  refine am_q_iast rfl rfl (by first | exact am_ix_nI (by omega) (by omega) | rfl) rfl ?_
  refine am_q_iload rfl rfl ?_
  refine am_q_zneN rfl (by omega) (fun c_99 => ?_) (fun c_99 => absurd c_99 (by omega))
  refine am_q_iinc [some _, some _, some _, some _, some _] rfl (c := nI 1) rfl rfl (Nat.le_of_ble_eq_true rfl) (nI_add _ _) rfl ?_
  refine am_q_aload_n rfl rfl ?_
  refine am_q_iload_n rfl rfl ?_
  refine am_q_call rfl rfl (he) rfl ?_
  refine am_q_iinc [some _, some _, some _, some _, some _] rfl (c := nI 1) rfl rfl (Nat.le_of_ble_eq_true rfl) (nI_add _ _) rfl ?_
  refine am_q_goto rfl ?_
  exact K _ _

theorem wrk_a (L X R : Nat) : 1 + (L + 1) * (1 + X) + R = 1 + X + (1 + L * (1 + X) + R) := by rw [Nat.succ_mul]; omega
theorem wrk_pos (M : Nat) (f : Fm) (fs : List Fm) : 1 ≤ wrk M (f :: fs) := by rw [wrk]; omega
theorem drop_mg {ms : List Nat} {k : Nat} (h : k < ms.length) : ms.drop k = mg ms k :: ms.drop (k + 1) := by rw [mg_eq h]; exact List.drop_eq_getElem_cons h
theorem lo_mem {u : Nat} (hu : u < 256) (hz : ¬ u = 0) : lo u ∈ bl u := by rw [(bl_cons u hu hz).2.2.1]; exact List.mem_cons_self
theorem bl_sub {u : Nat} (hu : u < 256) (hz : ¬ u = 0) {p : Nat} (h : p ∈ bl (u ^^^ 2 ^ lo u)) : p ∈ bl u := by rw [(bl_cons u hu hz).2.2.1]; exact List.mem_cons_of_mem _ h
theorem sOpen_256 {V : sVal} (hO : vOk V) (pl : Nat → Option Nat) (s : Nat) : sOpen V pl s < 256 := Nat.lt_of_lt_of_le (sBits_lt _ _) (Nat.pow_le_pow_right (by decide) hO.1.2.1)
theorem am_up_ne {μ : am_M2} {i k j q : Nat} {v : Int32} (h : j ≠ i ∨ q ≠ k) : am_up μ i k v j q = μ j q := by
  unfold am_up
  by_cases z : j = i
  · subst z
    rcases h with h | h
    · exact absurd rfl h
    · rw [if_pos rfl, if_neg h]
  · rw [if_neg z]
theorem am_up_eq {μ : am_M2} {i k : Nat} {v : Int32} : am_up μ i k v i k = v := by unfold am_up; rw [if_pos rfl, if_pos rfl]
theorem xMv_ne {μ μ' : am_M2} {ms : List Nat} (h1 : μ' 120 5 = μ 120 5) (h2 : ∀ k, μ' 121 k = μ 121 k) (h : xMv μ ms) : xMv μ' ms := ⟨h1.trans h.1, fun i hi => (h2 i).trans (h.2 i hi)⟩
theorem s_nextL (d n : Nat) {V : sVal} {ms : List Nat} (ν : am_N2) (hO : vOk V) (hm : msOk V ms) : ∀ (c i : Nat) (fs : List Fm) (μ : am_M2) (o3 o4 : Option Value), i + c = 1000000 → wrk ms.length fs ≤ c → xVal μ V → xMv μ ms → μ 120 6 = nI 1 → xFs V ms μ fs → xSp ms μ fs → am_w (d + 4) (Option.some FieldType.boolean) am_g119 37 [some (.ref 120), some (.int (dI fs.length)), some (.int (nI i)), o3, o4] [] (am_hp n μ ν) (nQ V ms n ν μ (remL V ms fs)) := by
  have hm1 := hm.1
  have h6 := hO.1.1
  intro c
  induction c with
  | zero =>
    intro i fs μ o3 o4 hi hw hV hM hb hF hS
    cases fs with
    | nil => exact s_nextX d n i ms.length μ ν hM.1 (by omega) (by omega) _ _ _ ⟨μ, frW_rf _, Or.inl ⟨rfl, rfl⟩⟩
    | cons f fs => exact absurd (wrk_pos ms.length f fs) (by omega)
  | succ c ih =>
    intro i fs μ o3 o4 hi hw hV hM hb hF hS
    cases fs with
    | nil => exact s_nextX d n i ms.length μ ν hM.1 (by omega) (by omega) _ _ _ ⟨μ, frW_rf _, Or.inl ⟨rfl, rfl⟩⟩
    | cons f fs =>
      obtain ⟨g1, g2, g3, g4, g5, g6, g7, g8⟩ := hF
      have hv := hm.2.1 fs.length g3
      by_cases hz : f.1 = 0
      · refine s_next0 d fs.length f.1 i n ν hV hO hM hm g3 (by omega) g1 g2 hz o3 o4 _ (fun o3 o4 => ?_)
        have hrem : remL V ms (f :: fs) = remL V ms fs := by rw [remL, hz]; rfl
        have hwk : wrk ms.length (f :: fs) = 1 + wrk ms.length fs := by rw [wrk, hz]; show 1 + 0 * _ + _ = _; omega
        rw [hrem]
        have hfr : frW μ (am_up (am_up μ 122 fs.length (nI f.1)) 123 (mg ms fs.length) (nI 0)) := frW_tr (frW_up (by omega)) (frW_up (by omega))
        have e := ih (i + 1) fs (am_up (am_up μ 122 fs.length (nI f.1)) 123 (mg ms fs.length) (nI 0)) o3 o4 (by omega) (by omega) (xVal_fr (fr_W hfr) hV) (xMv_ne rfl (fun k => rfl) hM) hb (xFs_row fs (fun k hk => by rw [am_up_ne (Or.inl (by decide)), am_up_ne (Or.inr (by omega))]) g8) (by
          cases fs with
          | nil => trivial
          | cons g gs =>
            obtain ⟨p, hp⟩ := g7
            intro s hs hne
            by_cases zz : s = mg ms (gs.length + 1)
            · rw [zz]
              show am_up (am_up μ 122 _ _) 123 (mg ms (gs.length + 1)) (nI 0) 123 (mg ms (gs.length + 1)) = _
              rw [am_up_eq, g8.2.2.2.2.1 (gs.length + 1) (by omega) g3]
              rfl
            · rw [show (g :: gs).length = gs.length + 1 from rfl, am_up_ne (Or.inr zz), am_up_ne (Or.inl (by decide)), hS s hs zz, hp, fup, if_neg hne])
        exact am_w_mono (fun y ⟨μ', hf', hy⟩ => ⟨μ', frW_tr hfr hf', hy⟩) e
      · obtain ⟨q1, q2, q3, q4⟩ := bl_cons f.1 g2 hz
        have hpm := g4 _ (lo_mem g2 hz)
        have hpok := pOk_up g6 hv hpm
        have h8p := pOk_8 hO hpok
        generalize hμ1 : am_up (am_up μ 122 fs.length (nI (f.1 ^^^ 2 ^ lo f.1))) 123 (mg ms fs.length) (nI (2 ^ lo f.1)) = μ1
        have hfr : frW μ μ1 := by rw [← hμ1]; exact frW_tr (frW_up (by omega)) (frW_up (by omega))
        have hM1 : xMv μ1 ms := by rw [← hμ1]; exact xMv_ne rfl (fun k => rfl) hM
        have hb1 : μ1 120 6 = nI 1 := by rw [← hμ1]; exact hb
        have hsp : ∀ s, s < 6 → μ1 123 s = sn_spot (fup f.2 (mg ms fs.length) (some (lo f.1)) s) := fun s hs => by
          rw [← hμ1]
          by_cases zz : s = mg ms fs.length
          · rw [zz, am_up_eq, fup, if_pos rfl]; rfl
          · rw [am_up_ne (Or.inr zz), am_up_ne (Or.inl (by decide)), hS s hs zz, fup, if_neg zz]
        have hF1 : xFs V ms μ1 ((f.1 ^^^ 2 ^ lo f.1, f.2) :: fs) := ⟨by rw [← hμ1, am_up_ne (Or.inl (by decide)), am_up_eq], q2, g3, fun p hp => g4 p (bl_sub g2 hz hp), g5, g6, g7, xFs_row fs (fun k hk => by rw [← hμ1, am_up_ne (Or.inl (by decide)), am_up_ne (Or.inr (by omega))]) g8⟩
        have hrem : remL V ms (f :: fs) = waysL V (ms.drop (fs.length + 1)) (fup f.2 (mg ms fs.length) (some (lo f.1))) ++ remL V ms ((f.1 ^^^ 2 ^ lo f.1, f.2) :: fs) := by
          rw [remL, q3, List.flatMap_cons, List.append_assoc, remL]
        have hwk : wrk ms.length (f :: fs) = 1 + wC (ms.length - fs.length - 1) + wrk ms.length ((f.1 ^^^ 2 ^ lo f.1, f.2) :: fs) := by
          rw [wrk, q3, List.length_cons, wrk]
          exact wrk_a _ _ _
        rw [hrem]
        by_cases hl : fs.length + 1 = ms.length
        · refine s_next1 d fs.length f.1 i n ν hV hO hM hm g3 (by omega) g1 g2 hz o3 o4 _ (am_hp n μ1 ν) (by rw [hμ1]; exact s_enter0 (d + 3) n ms.length (fs.length + 1) μ1 ν hM1.1 (by omega) (by omega)) (fun o3 o4 => ?_)
          rw [hl, List.drop_length]
          refine s_nextF d n (i + 1) ms.length μ1 ν hM1.1 (by omega) (by omega) o3 o4 _ ⟨μ1, hfr, Or.inr ⟨_, _, rfl, rfl, ⟨hM1, Or.inl ⟨hb1, _, by rw [List.length_cons]; exact hl, hF1, ?_, rfl, by omega⟩⟩, hsp⟩⟩
          intro s hs hne
          rw [hsp s hs, fup, if_neg hne]
        · have hlt : fs.length + 1 < ms.length := by omega
          have hV1 := xVal_fr (fr_W hfr) hV
          refine s_next1 d fs.length f.1 i n ν hV hO hM hm g3 (by omega) g1 g2 hz o3 o4 _ _ (by rw [hμ1]; exact s_enter1 d n ν hV1 hO hM1 hm (fs.length + 1) hlt hsp h8p) (fun o3 o4 => ?_)
          have hfr2 : frW μ1 (am_up μ1 122 (fs.length + 1) (nI (sOpen V (fup f.2 (mg ms fs.length) (some (lo f.1))) (mg ms (fs.length + 1))))) := frW_up (by omega)
          have hopen := sOpen_256 hO (fup f.2 (mg ms fs.length) (some (lo f.1))) (mg ms (fs.length + 1))
          have e := ih (i + 1) ((sOpen V (fup f.2 (mg ms fs.length) (some (lo f.1))) (mg ms (fs.length + 1)), fup f.2 (mg ms fs.length) (some (lo f.1))) :: (f.1 ^^^ 2 ^ lo f.1, f.2) :: fs) (am_up μ1 122 (fs.length + 1) (nI (sOpen V (fup f.2 (mg ms fs.length) (some (lo f.1))) (mg ms (fs.length + 1))))) o3 o4 (by omega) (by
            rw [wrk, List.length_cons]
            have hb8 := bl_len _ hopen
            have hC : wC (ms.length - fs.length - 1) = wB (ms.length - (fs.length + 1) - 1) := by
              rw [show ms.length - fs.length - 1 = (ms.length - (fs.length + 1) - 1) + 1 by omega]; rfl
            rw [wB_C] at hC
            have := Nat.mul_le_mul hb8 (Nat.le_refl (1 + wC (ms.length - (fs.length + 1) - 1)))
            show 1 + (bl (sOpen V (fup f.2 (mg ms fs.length) (some (lo f.1))) (mg ms (fs.length + 1)))).length * (1 + wC (ms.length - (fs.length + 1) - 1)) + wrk ms.length ((f.1 ^^^ 2 ^ lo f.1, f.2) :: fs) ≤ c
            omega) (xVal_fr (fr_W hfr2) hV1) (xMv_ne rfl (fun k => rfl) hM1) hb1 (by
            refine ⟨am_up_eq, hopen, hlt, fun p hp => hp, fun j hj1 hj2 => ?_, hpok, ⟨lo f.1, rfl⟩, xFs_row _ (fun k hk => am_up_ne (Or.inr (by rw [List.length_cons] at hk; omega))) hF1⟩
            rw [List.length_cons] at hj1
            have hne : mg ms j ≠ mg ms fs.length := fun e => by have := hm.2.2 j fs.length hj2 g3 e; omega
            show fup f.2 (mg ms fs.length) (some (lo f.1)) (mg ms j) = none
            rw [fup, if_neg hne]
            exact g5 j (by omega) hj2) (by
            intro s hs hne
            rw [am_up_ne (Or.inl (by decide))]
            exact hsp s hs)
          have hr2 : remL V ms ((sOpen V (fup f.2 (mg ms fs.length) (some (lo f.1))) (mg ms (fs.length + 1)), fup f.2 (mg ms fs.length) (some (lo f.1))) :: (f.1 ^^^ 2 ^ lo f.1, f.2) :: fs) = waysL V (ms.drop (fs.length + 1)) (fup f.2 (mg ms fs.length) (some (lo f.1))) ++ remL V ms ((f.1 ^^^ 2 ^ lo f.1, f.2) :: fs) := by
            rw [drop_mg hlt, waysL, remL, List.length_cons]
          rw [hr2] at e
          exact am_w_mono (fun y ⟨μ', hf', hy⟩ => ⟨μ', frW_tr hfr (frW_tr hfr2 hf'), hy⟩) e