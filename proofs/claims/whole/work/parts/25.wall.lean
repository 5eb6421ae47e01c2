/-! ===== the class's valley and walls, by what they mean ===== -/
def sn_sp (q : Option Nat) : Nat := match q with
  | none => 0
  | some p => 2 ^ p
theorem sn_spot_eq (q : Option Nat) : sn_spot q = nI (sn_sp q) := by cases q <;> rfl
/-- how many SOULS, how many PLACES -/
def xV (μ : am_M2) (N P : Nat) : Prop := μ 5 9 = nI N ∧ N ≤ 6 ∧ μ 5 8 = nI P ∧ P ≤ 8
/-- a wall at cell w: states, places, the week -/
def xW (μ : am_M2) (w : Nat) (st : Nat → Nat) (pl : Nat → Option Nat) (t : Nat) : Prop := (∀ s, s < 6 → μ (w + 1) s = nI (st s)) ∧ (∀ s, s < 6 → μ (w + 2) s = sn_spot (pl s)) ∧ μ w 3 = nI t
/-- what holds of every wall -/
def sI (N P : Nat) (st : Nat → Nat) (pl : Nat → Option Nat) : Prop := ∀ s, s < 6 → st s ≤ 4 ∧ ((pl s).isSome = true ↔ st s = 2) ∧ (∀ p, pl s = some p → p < P) ∧ (N ≤ s → st s = 0) ∧ ∀ s', s' < 6 → s ≠ s' → pl s ≠ none → pl s ≠ pl s'
def sIs (N : Nat) (st : Nat → Nat) (s : Int32) (x : Nat) : Bool := match am_ix s N with
  | some k => decide (st k = x)
  | none => false
theorem s_hasSoul0 (d : Nat) (n : Nat) (s : Int32) (μ : am_M2) (ν : am_N2) : am_run (d + 1) 64 [.ref 5, .int s] (am_hp n μ ν) = some (some (.int (if ¬ s < 0 ∧ ¬ μ 5 9 ≤ s then nI 1 else nI 0)), am_hp n μ ν) := by
  refine am_r64 (d := d + 0) (Nat.le_of_ble_eq_true rfl) [some (.ref 5), some (.int s)] rfl ?_
  refine am_q_iload_n rfl rfl ?_
  refine am_q_if_lt rfl (fun c_1 => ?_) (fun c_1 => ?_)
  · refine am_q_iconst (v := nI 0) rfl rfl ?_
    refine am_q_ireturn rfl rfl rfl ?_
    simp_all
  · refine am_q_iload_n rfl rfl ?_
    refine am_q_aload_n rfl rfl ?_
    refine am_q_gi rfl rfl rfl rfl ?_
    refine am_q_icmp_ge rfl (fun c_9 => ?_) (fun c_9 => ?_)
    · refine am_q_iconst (v := nI 0) rfl rfl ?_
      refine am_q_ireturn rfl rfl rfl ?_
      simp_all
    · refine am_q_iconst (v := nI 1) rfl rfl ?_
      refine am_q_goto rfl ?_
      refine am_q_ireturn rfl rfl rfl ?_
      simp_all

theorem s_hasPlace0 (d : Nat) (n : Nat) (s : Int32) (μ : am_M2) (ν : am_N2) : am_run (d + 1) 68 [.ref 5, .int s] (am_hp n μ ν) = some (some (.int (if ¬ s < 0 ∧ ¬ μ 5 8 ≤ s then nI 1 else nI 0)), am_hp n μ ν) := by
  refine am_r68 (d := d + 0) (Nat.le_of_ble_eq_true rfl) [some (.ref 5), some (.int s)] rfl ?_
  refine am_q_iload_n rfl rfl ?_
  refine am_q_if_lt rfl (fun c_1 => ?_) (fun c_1 => ?_)
  · refine am_q_iconst (v := nI 0) rfl rfl ?_
    refine am_q_ireturn rfl rfl rfl ?_
    simp_all
  · refine am_q_iload_n rfl rfl ?_
    refine am_q_aload_n rfl rfl ?_
    refine am_q_gi rfl rfl rfl rfl ?_
    refine am_q_icmp_ge rfl (fun c_9 => ?_) (fun c_9 => ?_)
    · refine am_q_iconst (v := nI 0) rfl rfl ?_
      refine am_q_ireturn rfl rfl rfl ?_
      simp_all
    · refine am_q_iconst (v := nI 1) rfl rfl ?_
      refine am_q_goto rfl ?_
      refine am_q_ireturn rfl rfl rfl ?_
      simp_all

theorem sn_has {s : Int32} {N : Nat} (hN : N < 2 ^ 31) : (if ¬ s < 0 ∧ ¬ nI N ≤ s then nI 1 else nI 0) = sB (am_ix s N).isSome := by
  rcases sn_ix s hN with ⟨z, q⟩ | ⟨j, z1, z2, z3⟩
  · rw [z, if_neg (fun y => q.elim y.1 (fun x => y.2 x.2))]; rfl
  · rw [z3, if_pos ⟨by rw [z2]; exact nI_pos (by omega), by rw [z2]; exact nI_ge z1 hN⟩]; rfl
theorem s_hasSoul (d n : Nat) (s : Int32) {N P : Nat} {μ : am_M2} (ν : am_N2) (hV : xV μ N P) : am_run (d + 1) 64 [.ref 5, .int s] (am_hp n μ ν) = some (some (.int (sB (am_ix s N).isSome)), am_hp n μ ν) := by
  rw [s_hasSoul0, hV.1, sn_has (by have := hV.2.1; omega)]
theorem s_hasPlace (d n : Nat) (s : Int32) {N P : Nat} {μ : am_M2} (ν : am_N2) (hV : xV μ N P) : am_run (d + 1) 68 [.ref 5, .int s] (am_hp n μ ν) = some (some (.int (sB (am_ix s P).isSome)), am_hp n μ ν) := by
  rw [s_hasPlace0, hV.2.2.1, sn_has (by have := hV.2.2.2; omega)]
theorem s_is35 (d : Nat) (s : Int32) (x : Nat) (hx : x ≤ 4) (n : Nat) {N P t : Nat} {st : Nat → Nat} {pl : Nat → Option Nat} {μ : am_M2} (ν : am_N2) (hV : xV μ N P) (hW : xW μ 35 st pl t) (hI : sI N P st pl) : am_run (d + 2) 73 [.ref 35, .int s, .int (nI x)] (am_hp n μ ν) = some (some (.int (sB (sIs N st s x))), am_hp n μ ν) := by
  have hN6 := hV.2.1
  unfold sIs
  rcases sn_ix s (N := N) (by omega) with ⟨z, -⟩ | ⟨j, z1, rfl, z3⟩
  · refine am_r73 (d := d + 1) (Nat.le_of_ble_eq_true rfl) [some (.ref 35), some (.int s), some (.int (nI x))] rfl ?_
    refine am_q_aload_n rfl rfl ?_
    refine am_q_gr rfl rfl rfl ?_
    refine am_q_iload_n rfl rfl ?_
    refine am_q_call rfl rfl (s_hasSoul d n s ν hV) rfl ?_
    refine am_q_if_eqB rfl (fun c_8 => ?_) (fun c_8 => by simp [z] at c_8)
    refine am_q_iconst (v := nI 0) rfl rfl ?_
    refine am_q_ireturn rfl rfl rfl ?_
    rw [z]; first | rfl | simp [*, sB]
  · refine am_r73 (d := d + 1) (Nat.le_of_ble_eq_true rfl) [some (.ref 35), some (.int (nI j)), some (.int (nI x))] rfl ?_
    refine am_q_aload_n rfl rfl ?_
    refine am_q_gr rfl rfl rfl ?_
    refine am_q_iload_n rfl rfl ?_
    refine am_q_call rfl rfl (s_hasSoul d n _ ν hV) rfl ?_
    refine am_q_if_eqB rfl (fun c_8 => by simp [z3] at c_8) (fun c_8 => ?_)
    refine am_q_aload_n rfl rfl ?_
    refine am_q_gr rfl rfl rfl ?_
    refine am_q_iload_n rfl rfl ?_
    refine am_q_iald rfl rfl (by first | exact am_ix_nI (by omega) (by omega) | rfl) (hW.1 j (by omega)) ?_
    refine am_q_iload_n rfl rfl ?_
    refine am_q_ineN rfl (by have := (hI j (by omega)).1; omega) (by omega) (fun c_18 => ?_) (fun c_18 => ?_)
    · refine am_q_iconst (v := nI 0) rfl rfl ?_
      refine am_q_ireturn rfl rfl rfl ?_
      rw [z3]; first | rfl | simp [*, sB]
    · refine am_q_iconst (v := nI 1) rfl rfl ?_
      refine am_q_goto rfl ?_
      refine am_q_ireturn rfl rfl rfl ?_
      rw [z3]; first | rfl | simp [*, sB]
theorem s_is38 (d : Nat) (s : Int32) (x : Nat) (hx : x ≤ 4) (n : Nat) {N P t : Nat} {st : Nat → Nat} {pl : Nat → Option Nat} {μ : am_M2} (ν : am_N2) (hV : xV μ N P) (hW : xW μ 38 st pl t) (hI : sI N P st pl) : am_run (d + 2) 73 [.ref 38, .int s, .int (nI x)] (am_hp n μ ν) = some (some (.int (sB (sIs N st s x))), am_hp n μ ν) := by
  have hN6 := hV.2.1
  unfold sIs
  rcases sn_ix s (N := N) (by omega) with ⟨z, -⟩ | ⟨j, z1, rfl, z3⟩
  · refine am_r73 (d := d + 1) (Nat.le_of_ble_eq_true rfl) [some (.ref 38), some (.int s), some (.int (nI x))] rfl ?_
    refine am_q_aload_n rfl rfl ?_
    refine am_q_gr rfl rfl rfl ?_
    refine am_q_iload_n rfl rfl ?_
    refine am_q_call rfl rfl (s_hasSoul d n s ν hV) rfl ?_
    refine am_q_if_eqB rfl (fun c_8 => ?_) (fun c_8 => by simp [z] at c_8)
    refine am_q_iconst (v := nI 0) rfl rfl ?_
    refine am_q_ireturn rfl rfl rfl ?_
    rw [z]; first | rfl | simp [*, sB]
  · refine am_r73 (d := d + 1) (Nat.le_of_ble_eq_true rfl) [some (.ref 38), some (.int (nI j)), some (.int (nI x))] rfl ?_
    refine am_q_aload_n rfl rfl ?_
    refine am_q_gr rfl rfl rfl ?_
    refine am_q_iload_n rfl rfl ?_
    refine am_q_call rfl rfl (s_hasSoul d n _ ν hV) rfl ?_
    refine am_q_if_eqB rfl (fun c_8 => by simp [z3] at c_8) (fun c_8 => ?_)
    refine am_q_aload_n rfl rfl ?_
    refine am_q_gr rfl rfl rfl ?_
    refine am_q_iload_n rfl rfl ?_
    refine am_q_iald rfl rfl (by first | exact am_ix_nI (by omega) (by omega) | rfl) (hW.1 j (by omega)) ?_
    refine am_q_iload_n rfl rfl ?_
    refine am_q_ineN rfl (by have := (hI j (by omega)).1; omega) (by omega) (fun c_18 => ?_) (fun c_18 => ?_)
    · refine am_q_iconst (v := nI 0) rfl rfl ?_
      refine am_q_ireturn rfl rfl rfl ?_
      rw [z3]; first | rfl | simp [*, sB]
    · refine am_q_iconst (v := nI 1) rfl rfl ?_
      refine am_q_goto rfl ?_
      refine am_q_ireturn rfl rfl rfl ?_
      rw [z3]; first | rfl | simp [*, sB]