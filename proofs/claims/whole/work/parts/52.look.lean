/-- StoneSecrets.tallyFits()I -/
theorem s_tally (d : Nat) (n : Nat) {V : sVal} {W : sWall} {μ : am_M2} (ν : am_N2) (hV : xVal μ V) (hO : vOk V) (hW : xWall μ 35 W) (hI : sI (vN V) (vP V) W.1 W.2.1) (ht : W.2.2 < 2 ^ 20) {S : sSeen} (hS : xSeen μ 117 S) (hN : nOk V S) : ∃ (μ' : am_M2), am_run (d + 6) 158 [.ref 2] (am_hp n μ ν) = some (some (.int (nI (ftF V S (waysOf V W)))), am_hp n μ' ν) ∧ fr μ μ' ∧ tR (vP V) (μ' 132) (tlF V S (waysOf V W)) := by
  have h6 := hO.1.1
  have hP8 := hO.1.2.1
  have h8 := sI_8 hO hI
  have hf0 : fr μ (am_fl μ 132 (nI 0) 512) := fr_fl (fun k => by omega)
  have hV0 := xVal_fr hf0 hV
  have hW0 := xW_fr hf0 (Or.inl rfl) hW
  obtain ⟨μ1, hb, hfw, hm, hi⟩ := s_beginWaysW (d + 2) n ν hV0 hO hW0 hI ht
  have hf1 := fr_tr hf0 (fr_W hfw)
  have hall := waysL_all (st := sSt V W) (sI_p hI) (sLo_N (V := V) (W := W))
  have hlen := waysL_262 hO (sLo V W) (sSt V W) W.2.1
  have key : ∃ r, am_run (d + 6) 158 [.ref 2] (am_hp n μ ν) = some r ∧ ∃ (μ' : am_M2), r = (some (.int (nI (ftF V S (waysOf V W)))), am_hp n μ' ν) ∧ fr μ μ' ∧ tR (vP V) (μ' 132) (tlF V S (waysOf V W)) := am_run_wE (k := 158) (d := d + 5) rfl rfl (Nat.le_of_ble_eq_true rfl) [some (.ref 2), none, none, none] rfl (by
    refine am_q_aload_n rfl rfl ?_
    refine am_q_gr rfl rfl rfl ?_
    refine am_q_iconst (v := nI 0) rfl rfl ?_
    refine am_q_call rfl rfl (s_fill _ n 132 512 (nI 0) μ ν _ rfl (by decide)) rfl ?_
    refine am_q_iconst (v := nI 0) rfl rfl ?_
    refine am_q_istore_n [some _, some _, none, none] rfl (Nat.le_of_ble_eq_true rfl) rfl ?_
    refine am_q_aload_n rfl rfl ?_
    refine am_q_call rfl rfl (hb) rfl ?_
    refine am_q_iconst (v := nI 0) rfl rfl ?_
    refine am_q_istore_n [some _, some _, some _, none] rfl (Nat.le_of_ble_eq_true rfl) rfl ?_
    have e := s_tallyL d n ν hV hO hm hS hN (waysOf V W) 0 μ1 0 (fun _ _ => 0) none (by rw [Nat.zero_add]; exact hlen) hall ⟨hf1, hi⟩ (by rw [hfw 132 (by omega)]; intro p hp w hw; unfold am_fl; rw [if_pos rfl, if_pos (by omega)])
    rw [Nat.zero_add] at e
    refine am_w_mono (fun y ⟨μ', h1, h2, h3⟩ => ⟨μ', h1, h2, fun p hp w hw => ?_⟩) e
    rw [h3 p hp w hw]
    dsimp only
    rw [Nat.zero_add])
  obtain ⟨r, h1, μ', h2, h3⟩ := key
  exact ⟨μ', by rw [h1, h2], h3⟩

/-- StoneSecrets.fit()I -/
theorem x_fit (d : Nat) (n : Nat) {V : sVal} {W : sWall} {μ : am_M2} (ν : am_N2) (hV : xVal μ V) (hO : vOk V) (hW : xWall μ 35 W) (hI : sI (vN V) (vP V) W.1 W.2.1) (ht : W.2.2 < 2 ^ 20) {S : sSeen} (hS : xSeen μ 117 S) (hN : nOk V S) : ∃ (μ' : am_M2), am_run (d + 7) 157 [.ref 2] (am_hp n μ ν) = some (some (.int (nI (ftF V S (waysOf V W)))), am_hp n μ' ν) ∧ fr μ μ' := by
  obtain ⟨μ1, hc, hf, -⟩ := s_tally d n ν hV hO hW hI ht hS hN
  have key : ∃ r, am_run (d + 7) 157 [.ref 2] (am_hp n μ ν) = some r ∧ ∃ (μ' : am_M2), r = (some (.int (nI (ftF V S (waysOf V W)))), am_hp n μ' ν) ∧ fr μ μ' := am_run_wE (k := 157) (d := d + 6) rfl rfl (Nat.le_of_ble_eq_true rfl) [some (.ref 2)] rfl (by
    refine am_q_aload_n rfl rfl ?_
    refine am_q_call rfl rfl (hc) rfl ?_
    refine am_q_ireturn rfl rfl rfl ?_
    exact ⟨_, rfl, hf⟩)
  obtain ⟨r, h1, μ', h2, h3⟩ := key
  exact ⟨μ', by rw [h1, h2], h3⟩

def gT (f : Nat → Nat) : Nat → Nat := lpF (fun w x => if x < f w then f w else x) 0
theorem gT_le {f : Nat → Nat} {B : Nat} (h : ∀ w, f w ≤ B) : ∀ n, gT f n ≤ B
  | 0 => Nat.zero_le _
  | n + 1 => by
    have := gT_le h n
    rw [gT, lpF_s]
    split
    · exact h n
    · exact this
theorem tlF_le (V : sVal) (S : sSeen) (ws : List (Nat → Option Nat)) (p w : Nat) : tlF V S ws p w ≤ ws.length := List.length_filter_le _ _
theorem ftF_le (V : sVal) (S : sSeen) (ws : List (Nat → Option Nat)) : ftF V S ws ≤ ws.length := List.length_filter_le _ _
theorem s_gtL (d : Nat) (p : Nat) (n : Nat) (P : Nat) (T : Nat → Nat → Nat) (B : Nat) (hB : B < 2 ^ 31) (hTB : ∀ w, T p w ≤ B) (μ : am_M2) (ν : am_N2) (hp : p < P) (hP : P ≤ 8) (hT : tR P (μ 132) T) : ∀ (m j : Nat) , j + m = 64 → am_w (d + 1) (Option.some FieldType.int) am_g162 4 [some (.ref 2), some (.int (nI p)), some (.int (nI (gT (T p) j))), some (.int (nI j))] [] (am_hp n μ ν) (fun y => y = (some (.int (nI (gT (T p) 64))), am_hp n μ ν)) := by
  intro m
  induction m with
  | zero =>
    intro j  hj
    refine am_q_iload_n rfl rfl ?_
    refine am_q_bipush (v := nI 64) rfl rfl ?_
    refine am_q_igeN rfl (by omega) (by omega) (fun c_7 => ?_) (fun c_7 => absurd c_7 (by omega))
    refine am_q_iload_n rfl rfl ?_
    refine am_q_ireturn rfl rfl rfl ?_
    rw [show j = 64 by omega]
  | succ m ih =>
    intro j  hj
    have hg := gT_le hTB j
    have e := ih (j + 1) (by omega)
    rw [gT, lpF_s] at e
    refine am_q_iload_n rfl rfl ?_
    refine am_q_bipush (v := nI 64) rfl rfl ?_
    refine am_q_igeN rfl (by omega) (by omega) (fun c_7 => absurd c_7 (by omega)) (fun c_7 => ?_)
    refine am_q_iload_n rfl rfl ?_
    refine am_q_aload_n rfl rfl ?_
    refine am_q_gr rfl rfl rfl ?_
    refine am_q_iload_n rfl rfl ?_
    refine am_q_bipush (v := nI 64) rfl rfl ?_
    refine am_q_imul rfl (pk_mul _ _) ?_
    refine am_q_iload_n rfl rfl ?_
    refine am_q_iadd rfl (nI_add _ _) ?_
    refine am_q_iald rfl rfl (by first | exact am_ix_nI (by omega) (by omega) | rfl) (hT p hp j (by omega)) ?_
    refine am_q_call rfl rfl (s_max _ _ _ _) rfl ?_
    rw [nI_max (by omega) (by have := hTB j; omega)]
    refine am_q_istore_n [some _, some _, some _, some _] rfl (Nat.le_of_ble_eq_true rfl) rfl ?_
    refine am_q_iinc [some _, some _, some _, some _] rfl (c := nI 1) rfl rfl (Nat.le_of_ble_eq_true rfl) (nI_add _ _) rfl ?_
    refine am_q_goto rfl ?_
    exact e

/-- StoneSecrets.greatestTally(I)I -/
theorem s_gt (d : Nat) (p : Nat) (n : Nat) (P : Nat) (T : Nat → Nat → Nat) (B : Nat) (hB : B < 2 ^ 31) (hTB : ∀ w, T p w ≤ B) (μ : am_M2) (ν : am_N2) (hp : p < P) (hP : P ≤ 8) (hT : tR P (μ 132) T) : am_run (d + 2) 162 [.ref 2, .int (nI p)] (am_hp n μ ν) = some (some (.int (nI (gT (T p) 64))), am_hp n μ ν) := by
  refine am_r162 (d := d + 1) (Nat.le_of_ble_eq_true rfl) [some (.ref 2), some (.int (nI p)), none, none] rfl ?_
  refine am_q_iconst (v := nI 0) rfl rfl ?_
  refine am_q_istore_n [some _, some _, some _, none] rfl (Nat.le_of_ble_eq_true rfl) rfl ?_
  refine am_q_iconst (v := nI 0) rfl rfl ?_
  refine am_q_istore_n [some _, some _, some _, some _] rfl (Nat.le_of_ble_eq_true rfl) rfl ?_
  exact s_gtL d p n P T B hB hTB μ ν hp hP hT 64 0 (by omega)

def lkF (g : Nat → Nat) (f : Nat) : Nat → Nat × Option Nat := lpF (fun p x => if g p < x.1 then (g p, some p) else x) (f, none)
theorem lkF_le {g : Nat → Nat} {f : Nat} : ∀ n, (lkF g f n).1 ≤ f
  | 0 => Nat.le_refl _
  | n + 1 => by
    have := lkF_le (g := g) (f := f) n
    rw [lkF, lpF_s]
    rw [lkF] at this
    split
    · dsimp only; omega
    · exact this
theorem s_lookL (d : Nat) (n : Nat) {V : sVal} (T : Nat → Nat → Nat) (B f : Nat) (hB : B < 2 ^ 31) (hf : f ≤ B) (hTB : ∀ p w, T p w ≤ B) {μ : am_M2} (ν : am_N2) (hV : xVal μ V) (hO : vOk V) (hT : tR (vP V) (μ 132) T) : ∀ (m j : Nat) (o4 : Option Value), j + m = vP V → am_w (d + 2) (Option.some FieldType.int) am_g161 9 [some (.ref 2), some (.int (nI ((lkF (fun p => gT (T p) 64) f j).1))), some (.int (sn_place (lkF (fun p => gT (T p) 64) f j).2)), some (.int (nI j)), o4] [] (am_hp n μ ν) (fun y => y = (some (.int (sn_place (lkF (fun p => gT (T p) 64) f (vP V)).2)), am_hp n μ ν)) := by
  intro m
  induction m with
  | zero =>
    intro j o4 hj
    have hP8 := hO.1.2.1
    refine am_q_iload_n rfl rfl ?_
    refine am_q_aload_n rfl rfl ?_
    refine am_q_gr rfl rfl rfl ?_
    refine am_q_gi rfl rfl rfl hV.1.2.2.1 ?_
    refine am_q_igeN rfl (by omega) (by omega) (fun c_17 => ?_) (fun c_17 => absurd c_17 (by omega))
    refine am_q_iload_n rfl rfl ?_
    refine am_q_ireturn rfl rfl rfl ?_
    rw [show j = vP V by omega]
  | succ m ih =>
    intro j o4 hj
    have hP8 := hO.1.2.1
    have hl := lkF_le (g := fun p => gT (T p) 64) (f := f) j
    have hg := gT_le (hTB j) 64
    have e := fun o => ih (j + 1) o (by omega)
    have el : lkF (fun p => gT (T p) 64) f (j + 1) = if gT (T j) 64 < (lkF (fun p => gT (T p) 64) f j).1 then (gT (T j) 64, some j) else lkF (fun p => gT (T p) 64) f j := rfl
    simp only [el] at e
    refine am_q_iload_n rfl rfl ?_
    refine am_q_aload_n rfl rfl ?_
    refine am_q_gr rfl rfl rfl ?_
    refine am_q_gi rfl rfl rfl hV.1.2.2.1 ?_
    refine am_q_igeN rfl (by omega) (by omega) (fun c_17 => absurd c_17 (by omega)) (fun c_17 => ?_)
    refine am_q_aload_n rfl rfl ?_
    refine am_q_iload_n rfl rfl ?_
    refine am_q_call rfl rfl (s_gt _ j n (vP V) T B hB (hTB j) μ ν (by omega) hP8 hT) rfl ?_
    refine am_q_istore [some _, some _, some _, some _, some _] rfl (Nat.le_of_ble_eq_true rfl) rfl ?_
    refine am_q_iload rfl rfl ?_
    refine am_q_iload_n rfl rfl ?_
    refine am_q_igeN rfl (by omega) (by omega) (fun c_30 => ?_) (fun c_30 => ?_)
    · simp only [if_neg (show ¬ gT (T j) 64 < (lkF (fun p => gT (T p) 64) f j).1 by omega)] at e
      refine am_q_iinc [some _, some _, some _, some _, some _] rfl (c := nI 1) rfl rfl (Nat.le_of_ble_eq_true rfl) (nI_add _ _) rfl ?_
      refine am_q_goto rfl ?_
      exact e _
    · simp only [if_pos (show gT (T j) 64 < (lkF (fun p => gT (T p) 64) f j).1 by omega)] at e
      refine am_q_iload rfl rfl ?_
      refine am_q_istore_n [some _, some _, some _, some _, some _] rfl (Nat.le_of_ble_eq_true rfl) rfl ?_
      refine am_q_iload_n rfl rfl ?_
      refine am_q_istore_n [some _, some _, some _, some _, some _] rfl (Nat.le_of_ble_eq_true rfl) rfl ?_
      refine am_q_iinc [some _, some _, some _, some _, some _] rfl (c := nI 1) rfl rfl (Nat.le_of_ble_eq_true rfl) (nI_add _ _) rfl ?_
      refine am_q_goto rfl ?_
      exact e _

def qLook (V : sVal) (W : sWall) (S : sSeen) : Int32 := sn_place (lkF (fun p => gT (tlF V S (waysOf V W) p) 64) (ftF V S (waysOf V W)) (vP V)).2
/-- StoneSecrets.look()I -/
theorem x_look (d : Nat) (n : Nat) {V : sVal} {W : sWall} {μ : am_M2} (ν : am_N2) (hV : xVal μ V) (hO : vOk V) (hW : xWall μ 35 W) (hI : sI (vN V) (vP V) W.1 W.2.1) (ht : W.2.2 < 2 ^ 20) {S : sSeen} (hS : xSeen μ 117 S) (hN : nOk V S) : ∃ (μ' : am_M2), am_run (d + 7) 161 [.ref 2] (am_hp n μ ν) = some (some (.int (qLook V W S)), am_hp n μ' ν) ∧ fr μ μ' := by
  obtain ⟨μ1, hc, hf, hT⟩ := s_tally d n ν hV hO hW hI ht hS hN
  have hlen := waysL_262 hO (sLo V W) (sSt V W) W.2.1
  have key : ∃ r, am_run (d + 7) 161 [.ref 2] (am_hp n μ ν) = some r ∧ ∃ (μ' : am_M2), r = (some (.int (qLook V W S)), am_hp n μ' ν) ∧ fr μ μ' := am_run_wE (k := 161) (d := d + 6) rfl rfl (Nat.le_of_ble_eq_true rfl) [some (.ref 2), none, none, none, none] rfl (by
    refine am_q_aload_n rfl rfl ?_
    refine am_q_call rfl rfl (hc) rfl ?_
    refine am_q_istore_n [some _, some _, none, none, none] rfl (Nat.le_of_ble_eq_true rfl) rfl ?_
    refine am_q_iconst (v := -1) rfl rfl ?_
    refine am_q_istore_n [some _, some _, some _, none, none] rfl (Nat.le_of_ble_eq_true rfl) rfl ?_
    refine am_q_iconst (v := nI 0) rfl rfl ?_
    refine am_q_istore_n [some _, some _, some _, some _, none] rfl (Nat.le_of_ble_eq_true rfl) rfl ?_
    exact am_w_mono (fun r hr => ⟨μ1, hr, hf⟩) (s_lookL (d + 4) n (tlF V S (waysOf V W)) 262144 (ftF V S (waysOf V W)) (by decide) (Nat.le_trans (ftF_le _ _ _) hlen) (fun p w => Nat.le_trans (tlF_le _ _ _ _ _) hlen) ν (xVal_fr hf hV) hO hT (vP V) 0 none (by omega)))
  obtain ⟨r, h1, μ', h2, h3⟩ := key
  exact ⟨μ', by rw [h1, h2], h3⟩
