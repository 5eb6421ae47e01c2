/-- PLACES behind so many WEEKS -/
def plW (V : sVal) (t : Nat) (pl : Nat → Option Nat) : Nat → Nat → Option Nat
  | 0 => pl
  | a + 1 => wkPl V (plW V t pl a) (t + a) (vCold V (t + a))
/-- behind how many WEEKS one has fallen; 0: not -/
def fll (V : sVal) (t : Nat) (pl : Nat → Option Nat) : Nat → Nat → Nat
  | 0, _ => 0
  | a + 1, s => if (plW V t pl a s).isSome = true ∧ plW V t pl (a + 1) s = none then a + 1 else fll V t pl a s
def tnS (V : sVal) (t sp : Nat) (q : Nat → Option Nat) (a s : Nat) : Nat := soo V t sp s (oNb q (q s)) (sp - a)
def nT (V : sVal) (t sp : Nat) (q : Nat → Option Nat) (a : Nat) : Nat → Nat := lpF (fun s x => if (q s).isSome = true ∧ tnS V t sp q a s < x then tnS V t sp q a s else x) 61
theorem nT_le {V : sVal} {t sp : Nat} {q : Nat → Option Nat} {a : Nat} : ∀ n, nT V t sp q a n ≤ 61 ∧ (∀ s, s < n → (q s).isSome = true → nT V t sp q a n ≤ tnS V t sp q a s) ∧ (nT V t sp q a n = 61 ∨ ∃ s, s < n ∧ (q s).isSome = true ∧ tnS V t sp q a s = nT V t sp q a n)
  | 0 => ⟨Nat.le_refl _, fun s h => by omega, Or.inl rfl⟩
  | n + 1 => by
    obtain ⟨h1, h2, h3⟩ := nT_le (V := V) (t := t) (sp := sp) (q := q) (a := a) n
    have e : nT V t sp q a (n + 1) = if (q n).isSome = true ∧ tnS V t sp q a n < nT V t sp q a n then tnS V t sp q a n else nT V t sp q a n := rfl
    by_cases z : (q n).isSome = true ∧ tnS V t sp q a n < nT V t sp q a n
    · rw [e, if_pos z]
      refine ⟨by omega, fun s hs hq => ?_, Or.inr ⟨n, by omega, z.1, rfl⟩⟩
      by_cases y : s = n
      · rw [y]; omega
      · have := h2 s (by omega) hq; omega
    · rw [e, if_neg z]
      refine ⟨h1, fun s hs hq => ?_, ?_⟩
      · by_cases y : s = n
        · subst y
          by_cases w : tnS V t sp q a s < nT V t sp q a s
          · exact absurd ⟨hq, w⟩ z
          · omega
        · exact h2 s (by omega) hq
      · rcases h3 with h3 | ⟨s, a1, a2, a3⟩
        · exact Or.inl h3
        · exact Or.inr ⟨s, by omega, a2, a3⟩
theorem sFall_dr {V : sVal} {t a s p : Nat} {q : Nat → Option Nat} (h : q s = some p) : sFall V q (t + a) (vCold V (t + a)) s = dr3 V t s (oNb q (q s)) a := by
  unfold sFall dr3 oNb; rw [h]
theorem oNb_le (q : Nat → Option Nat) (x : Option Nat) : oNb q x < 3 := by
  unfold oNb
  cases x with
  | none => exact (by decide : 0 < 3)
  | some p => show sNb _ _ < 3; unfold sNb; split <;> split <;> omega
/-- until the next turn nothing falls -/
theorem plW_stay {V : sVal} {t sp : Nat} {pl : Nat → Option Nat} {a : Nat} (ha : a ≤ sp) : ∀ m, a + m ≤ sp → a + m ≤ nT V t sp (plW V t pl a) a (vN V) → plW V t pl (a + m) = plW V t pl a
  | 0, _, _ => rfl
  | m + 1, h1, h2 => by
    have ih := plW_stay (V := V) (t := t) (pl := pl) ha m (by omega) (by omega)
    have hn := (nT_le (V := V) (t := t) (sp := sp) (q := plW V t pl a) (a := a) (vN V)).2.1
    rw [← Nat.add_assoc, plW, ih]
    funext s
    unfold wkPl
    by_cases hs : s < vN V
    · rw [if_pos hs]
      cases hq : plW V t pl a s with
      | none => split <;> rfl
      | some p =>
        have h3 := hn s hs (by rw [hq]; rfl)
        rw [sFall_dr hq]
        have hf : dr3 V t s (oNb (plW V t pl a) (plW V t pl a s)) (a + m) = false := by
          unfold tnS at h3
          rcases soo_spec (V := V) (t := t) (sp := sp) (s := s) (nb := oNb (plW V t pl a) (plW V t pl a s)) (sp - a) (by omega) with ⟨b1, b2⟩ | ⟨b1, b2, b3, b4⟩
          · exact b2 (a + m) (by omega) (by omega)
          · exact b4 (a + m) (by omega) (by omega)
        rw [hf]; rfl
    · rw [if_neg hs]
theorem fll_stay {V : sVal} {t sp : Nat} {pl : Nat → Option Nat} {a : Nat} (ha : a ≤ sp) (s : Nat) : ∀ m, a + m ≤ sp → a + m ≤ nT V t sp (plW V t pl a) a (vN V) → fll V t pl (a + m) s = fll V t pl a s
  | 0, _, _ => rfl
  | m + 1, h1, h2 => by
    rw [← Nat.add_assoc, fll, plW_stay ha m (by omega) (by omega), Nat.add_assoc, plW_stay ha (m + 1) h1 h2, if_neg]
    · exact fll_stay ha s m (by omega) (by omega)
    · intro z; rw [z.2] at z; cases z.1
/-- at the turn just those fall whose turn it is -/
theorem plW_turn {V : sVal} {t sp : Nat} {pl : Nat → Option Nat} {a : Nat} (ha : a ≤ sp) (hl : nT V t sp (plW V t pl a) a (vN V) < 61) (hsp : sp ≤ 60) : a ≤ nT V t sp (plW V t pl a) a (vN V) ∧ nT V t sp (plW V t pl a) a (vN V) < sp ∧ ∀ s, plW V t pl (nT V t sp (plW V t pl a) a (vN V) + 1) s = if s < vN V ∧ (plW V t pl a s).isSome = true ∧ tnS V t sp (plW V t pl a) a s = nT V t sp (plW V t pl a) a (vN V) then none else plW V t pl a s := by
  obtain ⟨-, hn, h3⟩ := nT_le (V := V) (t := t) (sp := sp) (q := plW V t pl a) (a := a) (vN V)
  have key : a ≤ nT V t sp (plW V t pl a) a (vN V) ∧ nT V t sp (plW V t pl a) a (vN V) < sp := by
    rcases h3 with h3 | ⟨s, a1, a2, a3⟩
    · omega
    · rw [← a3] at hl ⊢
      unfold tnS at hl ⊢
      rcases soo_spec (V := V) (t := t) (sp := sp) (s := s) (nb := oNb (plW V t pl a) (plW V t pl a s)) (sp - a) (by omega) with ⟨b1, b2⟩ | ⟨b1, b2, b3, b4⟩
      · omega
      · omega
  refine ⟨key.1, key.2, fun s => ?_⟩
  generalize hT : nT V t sp (plW V t pl a) a (vN V) = T at *
  have hst : plW V t pl T = plW V t pl a := by
    have := plW_stay (V := V) (t := t) (pl := pl) ha (T - a) (by omega) (by omega)
    rw [show a + (T - a) = T by omega] at this; exact this
  rw [plW, hst]
  unfold wkPl
  by_cases hs : s < vN V
  · rw [if_pos hs]
    cases hq : plW V t pl a s with
    | none => rw [ite_self, ite_self]
    | some p =>
      have h4 := hn s hs (by rw [hq]; rfl)
      rw [sFall_dr hq, ← hq]
      have hiff : dr3 V t s (oNb (plW V t pl a) (plW V t pl a s)) T = true ↔ tnS V t sp (plW V t pl a) a s = T := by
        unfold tnS at h4 ⊢
        rcases soo_spec (V := V) (t := t) (sp := sp) (s := s) (nb := oNb (plW V t pl a) (plW V t pl a s)) (sp - a) (by omega) with ⟨b1, b2⟩ | ⟨b1, b2, b3, b4⟩
        · rw [b2 T (by omega) (by omega), b1]
          exact ⟨fun h => (by cases h), fun h => by omega⟩
        · constructor
          · intro h
            by_cases z : T < soo V t sp s (oNb (plW V t pl a) (plW V t pl a s)) (sp - a)
            · rw [b4 T (by omega) z] at h; cases h
            · omega
          · intro h; rw [h] at b3; exact b3
      by_cases z : tnS V t sp (plW V t pl a) a s = T
      · rw [if_pos (hiff.mpr z), if_pos ⟨hs, by rw [hq]; rfl, z⟩]
      · rw [if_neg (fun w => z (hiff.mp w)), if_neg (fun w => z w.2.2)]
  · rw [if_neg hs, if_neg (fun z => hs z.1)]
theorem fll_turn {V : sVal} {t sp : Nat} {pl : Nat → Option Nat} {a : Nat} (ha : a ≤ sp) (hl : nT V t sp (plW V t pl a) a (vN V) < 61) (hsp : sp ≤ 60) (s : Nat) : fll V t pl (nT V t sp (plW V t pl a) a (vN V) + 1) s = if s < vN V ∧ (plW V t pl a s).isSome = true ∧ tnS V t sp (plW V t pl a) a s = nT V t sp (plW V t pl a) a (vN V) then nT V t sp (plW V t pl a) a (vN V) + 1 else fll V t pl a s := by
  obtain ⟨h1, h2, h3⟩ := plW_turn (V := V) (t := t) (pl := pl) ha hl hsp
  have hs := h3 s
  have hst := plW_stay (V := V) (t := t) (pl := pl) ha (nT V t sp (plW V t pl a) a (vN V) - a) (by omega) (by omega)
  have hfs := fll_stay (V := V) (t := t) (pl := pl) ha s (nT V t sp (plW V t pl a) a (vN V) - a) (by omega) (by omega)
  rw [show a + (nT V t sp (plW V t pl a) a (vN V) - a) = nT V t sp (plW V t pl a) a (vN V) by omega] at hst hfs
  rw [fll, hs, hst, hfs]
  by_cases z : s < vN V ∧ (plW V t pl a s).isSome = true ∧ tnS V t sp (plW V t pl a) a s = nT V t sp (plW V t pl a) a (vN V)
  · rw [if_pos z, if_pos z, if_pos ⟨z.2.1, rfl⟩]
  · rw [if_neg z, if_neg z, if_neg]
    intro w; rw [w.2] at w; cases w.1
/-- how many stand -/
def stN (V : sVal) (q : Nat → Option Nat) : Nat := fa_cnt (fun s => (q s).isSome) (vN V)
theorem cnt_lt {p p' : Nat → Bool} : ∀ n k, k < n → (∀ i, p' i = true → p i = true) → p k = true → p' k = false → fa_cnt p' n < fa_cnt p n
  | 0, k, hk, _, _, _ => by omega
  | n + 1, k, hk, h, h1, h2 => by
    have mono : ∀ m, fa_cnt p' m ≤ fa_cnt p m := fun m => by
      induction m with
      | zero => exact Nat.le_refl _
      | succ m ih =>
        cases hq : p' m with
        | true => rw [fa_cnt_yes hq, fa_cnt_yes (h m hq)]; omega
        | false =>
          rw [fa_cnt_no hq]
          cases hq2 : p m with
          | true => rw [fa_cnt_yes hq2]; omega
          | false => rw [fa_cnt_no hq2]; exact ih
    by_cases z : k = n
    · subst z
      rw [fa_cnt_yes h1, fa_cnt_no h2]
      have := mono k; omega
    · have := cnt_lt n k (by omega) h h1 h2
      cases hq : p' n with
      | true => rw [fa_cnt_yes hq, fa_cnt_yes (h n hq)]; omega
      | false =>
        rw [fa_cnt_no hq]
        cases hq2 : p n with
        | true => rw [fa_cnt_yes hq2]; omega
        | false => rw [fa_cnt_no hq2]; exact this
theorem cnt_0 {p : Nat → Bool} : ∀ n, fa_cnt p n = 0 → ∀ k, k < n → p k = false
  | 0, _, k, hk => by omega
  | n + 1, h, k, hk => by
    cases hq : p n with
    | true => rw [fa_cnt_yes hq] at h; omega
    | false =>
      rw [fa_cnt_no hq] at h
      by_cases z : k = n
      · rw [z]; exact hq
      · exact cnt_0 n h k (by omega)
theorem stN_turn {V : sVal} {t sp : Nat} {pl : Nat → Option Nat} {a : Nat} (ha : a ≤ sp) (hl : nT V t sp (plW V t pl a) a (vN V) < 61) (hsp : sp ≤ 60) : stN V (plW V t pl (nT V t sp (plW V t pl a) a (vN V) + 1)) < stN V (plW V t pl a) := by
  obtain ⟨h1, h2, h3⟩ := plW_turn (V := V) (t := t) (pl := pl) ha hl hsp
  rcases (nT_le (V := V) (t := t) (sp := sp) (q := plW V t pl a) (a := a) (vN V)).2.2 with h4 | ⟨s, a1, a2, a3⟩
  · omega
  · refine cnt_lt (vN V) s a1 (fun i hi => ?_) a2 ?_
    · rw [h3 i] at hi
      split at hi
      · cases hi
      · exact hi
    · rw [h3 s, if_pos ⟨a1, a2, a3⟩]; rfl
theorem nT_none {V : sVal} {t sp : Nat} {q : Nat → Option Nat} {a : Nat} (h : stN V q = 0) : nT V t sp q a (vN V) = 61 := by
  rcases (nT_le (V := V) (t := t) (sp := sp) (q := q) (a := a) (vN V)).2.2 with h4 | ⟨s, a1, a2, a3⟩
  · exact h4
  · rw [cnt_0 _ h s a1] at a2; cases a2
theorem plW_never {V : sVal} {t sp : Nat} {pl : Nat → Option Nat} {a : Nat} (ha : a ≤ sp) (hsp : sp ≤ 60) (hl : nT V t sp (plW V t pl a) a (vN V) = 61) : plW V t pl sp = plW V t pl a ∧ ∀ s, fll V t pl sp s = fll V t pl a s := by
  have h1 := plW_stay (V := V) (t := t) (pl := pl) ha (sp - a) (by omega) (by omega)
  rw [show a + (sp - a) = sp by omega] at h1
  refine ⟨h1, fun s => ?_⟩
  have h2 := fll_stay (V := V) (t := t) (pl := pl) ha s (sp - a) (by omega) (by omega)
  rw [show a + (sp - a) = sp by omega] at h2
  exact h2