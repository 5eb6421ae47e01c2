/-! ===== what a question may change ===== -/
abbrev scr (i k : Nat) : Prop := i = 15 ∨ (38 ≤ i ∧ i ≤ 40) ∨ (120 ≤ i ∧ i ≤ 132) ∨ i = 143 ∨ i = 144 ∨ (147 ≤ i ∧ i ≤ 150) ∨ (i = 145 ∧ 798 ≤ k) ∨ (i = 133 ∧ (k = 0 ∨ 20 ≤ k))
def fr (μ μ' : am_M2) : Prop := ∀ i k, ¬ scr i k → μ' i k = μ i k
theorem fr_rf (μ : am_M2) : fr μ μ := fun _ _ _ => rfl
theorem fr_tr {μ μ' μ'' : am_M2} (h : fr μ μ') (h' : fr μ' μ'') : fr μ μ'' := fun i k q => (h' i k q).trans (h i k q)
theorem fr_up {μ : am_M2} {i k : Nat} {v : Int32} (h : scr i k) : fr μ (am_up μ i k v) := by
  intro i' k' q
  unfold am_up
  by_cases h1 : i' = i
  · subst h1
    by_cases h2 : k' = k
    · subst h2; exact absurd h q
    · rw [if_pos rfl, if_neg h2]
  · rw [if_neg h1]
theorem fr_rw {μ : am_M2} {i : Nat} {g : Nat → Int32} (h : ∀ k, scr i k) : fr μ (am_rw μ i g) := by
  intro i' k' q
  unfold am_rw
  by_cases h1 : i' = i
  · subst h1; exact absurd (h k') q
  · rw [if_neg h1]
theorem fr_15 (μ : am_M2) (g : Nat → Int32) : fr μ (am_rw μ 15 g) := fr_rw (fun k => Or.inl rfl)
theorem fr_wl {μ : am_M2} {a b : Nat → Int32} {x : Int32} : fr μ (am_wl μ 38 a b x) := by
  intro i k q
  rw [am_wl_row (by omega)]
theorem fr_fl {μ : am_M2} {i m : Nat} {v : Int32} (h : ∀ k, scr i k) : fr μ (am_fl μ i v m) := by
  intro i' k' q
  unfold am_fl
  by_cases h1 : i' = i
  · subst h1; exact absurd (h k') q
  · rw [if_neg h1]
theorem xW_pt {μ μ' : am_M2} {w : Nat} {st : Nat → Nat} {pl : Nat → Option Nat} {t : Nat} (h : ∀ i k, w ≤ i → i < w + 3 → μ' i k = μ i k) (hW : xW μ w st pl t) : xW μ' w st pl t :=
  xW_rows (fun i a b => funext fun k => h i k a b) hW
theorem xW_fr {μ μ' : am_M2} {w : Nat} {st : Nat → Nat} {pl : Nat → Option Nat} {t : Nat} (hf : fr μ μ') (hw : w = 35 ∨ (45 ≤ w ∧ w < 115)) (hW : xW μ w st pl t) : xW μ' w st pl t :=
  xW_pt (fun i k a b => hf i k (by omega)) hW
theorem xVal_fr {μ μ' : am_M2} {V : sVal} (hf : fr μ μ') (hV : xVal μ V) : xVal μ' V :=
  xVal_rows (fun i a b => funext fun k => hf i k (by omega)) hV
section SBZ
variable {d : Nat} {rt : Option FieldType} {cd : Nat → Option am_I} {pc nx r1 r2 r3 ps : Nat} {L : am_L} {st : List Value} {h : am_H} {Q : am_R → Prop} {cst : Value}
/-- a small number against 0 -/
theorem am_q_zeqN {off : Int} {x : Nat} (hE : cd pc = some (.ifCond .eq off, nx, r1, r2, r3, ps, cst)) (hx : x < 2 ^ 31) (kt : x = 0 → am_w d rt cd r1 L st h Q) (kf : ¬ x = 0 → am_w d rt cd nx L st h Q) : am_w d rt cd pc L (.int (nI x) :: st) h Q :=
  am_q_if_eq hE (fun z => kt ((nI_eq hx (by decide)).mp z)) (fun z => kf (fun e => z (by rw [e]; rfl)))
theorem am_q_zneN {off : Int} {x : Nat} (hE : cd pc = some (.ifCond .ne off, nx, r1, r2, r3, ps, cst)) (hx : x < 2 ^ 31) (kt : ¬ x = 0 → am_w d rt cd r1 L st h Q) (kf : x = 0 → am_w d rt cd nx L st h Q) : am_w d rt cd pc L (.int (nI x) :: st) h Q :=
  am_q_if_ne hE (fun z => kt (fun e => z (by rw [e]; rfl))) (fun z => kf ((nI_eq hx (by decide)).mp z))
theorem am_q_zltN {off : Int} {x : Nat} (hE : cd pc = some (.ifCond .lt off, nx, r1, r2, r3, ps, cst)) (hx : x < 2 ^ 31) (_kt : x < 0 → am_w d rt cd r1 L st h Q) (kf : 0 ≤ x → am_w d rt cd nx L st h Q) : am_w d rt cd pc L (.int (nI x) :: st) h Q :=
  am_q_if_lt hE (fun z => absurd z (nI_pos hx)) (fun _ => kf (Nat.zero_le _))
theorem am_q_zgeN {off : Int} {x : Nat} (hE : cd pc = some (.ifCond .ge off, nx, r1, r2, r3, ps, cst)) (hx : x < 2 ^ 31) (kt : 0 ≤ x → am_w d rt cd r1 L st h Q) (_kf : x < 0 → am_w d rt cd nx L st h Q) : am_w d rt cd pc L (.int (nI x) :: st) h Q :=
  am_q_if_ge hE (fun _ => kt (Nat.zero_le _)) (fun z => absurd (nI_pos' hx) z)
theorem am_q_zgtN {off : Int} {x : Nat} (hE : cd pc = some (.ifCond .gt off, nx, r1, r2, r3, ps, cst)) (hx : x < 2 ^ 31) (kt : 0 < x → am_w d rt cd r1 L st h Q) (kf : x ≤ 0 → am_w d rt cd nx L st h Q) : am_w d rt cd pc L (.int (nI x) :: st) h Q :=
  am_q_if_gt hE (fun z => kt ((nI_ltI (by decide) hx).mp z)) (fun z => kf (Nat.not_lt.mp fun e => z ((nI_ltI (by decide) hx).mpr e)))
theorem am_q_zleN {off : Int} {x : Nat} (hE : cd pc = some (.ifCond .le off, nx, r1, r2, r3, ps, cst)) (hx : x < 2 ^ 31) (kt : x ≤ 0 → am_w d rt cd r1 L st h Q) (kf : 0 < x → am_w d rt cd nx L st h Q) : am_w d rt cd pc L (.int (nI x) :: st) h Q :=
  am_q_if_le hE (fun z => kt ((nI_leI hx (by decide)).mp z)) (fun z => kf (Nat.not_le.mp fun e => z ((nI_leI hx (by decide)).mpr e)))
end SBZ
/-- an int as a number -/
def ik (s : Int32) : Nat := s.toNatClampNeg
theorem ik_nI {k : Nat} (h : k < 2 ^ 31) : ik (nI k) = k := nI_clamp h
theorem isK {N x : Nat} {st : Nat → Nat} {s : Int32} (h : sIs N st s x = true) (hN : N ≤ 6) : ∃ k, k < N ∧ s = nI k ∧ st k = x ∧ am_ix s N = some k := by
  obtain ⟨k, h1, h2⟩ := sIs_some h
  obtain ⟨h3, h4⟩ := sn_ix_in h1 (by omega)
  exact ⟨k, h3, h4, h2, h1⟩
theorem isI {N : Nat} {s : Int32} (h : (am_ix s N).isSome = true) (hN : N < 2 ^ 31) : ∃ k, k < N ∧ s = nI k ∧ am_ix s N = some k := by
  obtain ⟨k, h1⟩ := Option.isSome_iff_exists.mp h
  obtain ⟨h3, h4⟩ := sn_ix_in h1 hN
  exact ⟨k, h3, h4, h1⟩
theorem isN {N : Nat} {s : Int32} (h : (am_ix s N).isSome = false) : am_ix s N = none := by
  cases q : am_ix s N with
  | none => rfl
  | some k => rw [q] at h; cases h
theorem sIs_nI {N x k : Nat} {st : Nat → Nat} (h : k < N) (hN : N < 2 ^ 31) : sIs N st (nI k) x = decide (st k = x) := by
  unfold sIs; rw [am_ix_nI h hN]
/-- a switch from 0 on, outside -/
theorem sw_none {x : Int32} {K pc t : Nat} {dd hi : Int} {offs : List Int} (h : am_ix x K = none) (hh : hi = (K : Int) - 1) (hK : K < 2 ^ 31) (ht : am_tgt pc dd = some t) : am_tsw pc dd 0 hi offs x = some t := by
  unfold am_tsw
  have hx : x.toInt < 0 ∨ hi < x.toInt := by
    rcases sn_ix_out h hK with q | ⟨_, q⟩
    · exact Or.inl (by have := Int32.lt_iff_toInt_lt.mp q; simpa using this)
    · have := Int32.le_iff_toInt_le.mp q
      rw [nI_toInt hK] at this
      exact Or.inr (by omega)
  rw [if_pos hx, ht]