def qCount (V : sVal) (W : sWall) (U : List sWall) (S : sSeen) (Y : sYear) (tl : Nat) (w : Int32) : Int32 := match am_ix w 14 with
  | some 0 => nI (vP V)
  | some 1 => nI (vN V)
  | some 2 => nI (vQ V)
  | some 3 => nI W.2.2
  | some 4 => nI (vCold V W.2.2)
  | some 10 => nI Y.1
  | some 11 => nI S.1
  | some 12 => nI U.length
  | some 13 => nI tl
  | some k => nI (sBits (fun s => decide (W.1 s = k - 5)) (vN V))
  | none => -1
theorem x_count0 (d : Nat) (n : Nat) {V : sVal} {W : sWall} {U : List sWall} {K : Nat → Option (sWall × sSeen)} {S : sSeen} {Y : sYear} {μ : am_M2} (ν : am_N2) (hR : xR μ V W U K S Y) (hO : vOk V) (hI : sI (vN V) (vP V) W.1 W.2.1) (ht : W.2.2 < 2 ^ 20) (tl : Nat) (hTp : μ 3 1 = nI tl) : am_run (d + 2) 174 [.ref 2, .int (nI 0)] (am_hp n μ ν) = some (some (.int (qCount V W U S Y tl (nI 0))), am_hp n μ ν) := by
  obtain ⟨hV, hW, hU, hK, hS, hY⟩ := hR
  have h6 := hO.1.1
  have hP8 := hO.1.2.1
  have h8 := sI_8 hO hI
  obtain ⟨-, -, -, hU5, -⟩ := hU
  refine am_r174 (d := d + 1) (Nat.le_of_ble_eq_true rfl) [some (.ref 2), some (.int (nI 0))] rfl ?_
  refine am_q_iload_n rfl rfl ?_
  refine am_q_tsw (t := 72) rfl (by decide) ?_
  refine am_q_aload_n rfl rfl ?_
  refine am_q_gr rfl rfl rfl ?_
  refine am_q_gi rfl rfl rfl hV.1.2.2.1 ?_
  refine am_q_ireturn rfl rfl rfl ?_
  rfl

theorem x_count1 (d : Nat) (n : Nat) {V : sVal} {W : sWall} {U : List sWall} {K : Nat → Option (sWall × sSeen)} {S : sSeen} {Y : sYear} {μ : am_M2} (ν : am_N2) (hR : xR μ V W U K S Y) (hO : vOk V) (hI : sI (vN V) (vP V) W.1 W.2.1) (ht : W.2.2 < 2 ^ 20) (tl : Nat) (hTp : μ 3 1 = nI tl) : am_run (d + 2) 174 [.ref 2, .int (nI 1)] (am_hp n μ ν) = some (some (.int (qCount V W U S Y tl (nI 1))), am_hp n μ ν) := by
  obtain ⟨hV, hW, hU, hK, hS, hY⟩ := hR
  have h6 := hO.1.1
  have hP8 := hO.1.2.1
  have h8 := sI_8 hO hI
  obtain ⟨-, -, -, hU5, -⟩ := hU
  refine am_r174 (d := d + 1) (Nat.le_of_ble_eq_true rfl) [some (.ref 2), some (.int (nI 1))] rfl ?_
  refine am_q_iload_n rfl rfl ?_
  refine am_q_tsw (t := 80) rfl (by decide) ?_
  refine am_q_aload_n rfl rfl ?_
  refine am_q_gr rfl rfl rfl ?_
  refine am_q_gi rfl rfl rfl hV.1.1 ?_
  refine am_q_ireturn rfl rfl rfl ?_
  rfl

theorem x_count2 (d : Nat) (n : Nat) {V : sVal} {W : sWall} {U : List sWall} {K : Nat → Option (sWall × sSeen)} {S : sSeen} {Y : sYear} {μ : am_M2} (ν : am_N2) (hR : xR μ V W U K S Y) (hO : vOk V) (hI : sI (vN V) (vP V) W.1 W.2.1) (ht : W.2.2 < 2 ^ 20) (tl : Nat) (hTp : μ 3 1 = nI tl) : am_run (d + 2) 174 [.ref 2, .int (nI 2)] (am_hp n μ ν) = some (some (.int (qCount V W U S Y tl (nI 2))), am_hp n μ ν) := by
  obtain ⟨hV, hW, hU, hK, hS, hY⟩ := hR
  have h6 := hO.1.1
  have hP8 := hO.1.2.1
  have h8 := sI_8 hO hI
  obtain ⟨-, -, -, hU5, -⟩ := hU
  refine am_r174 (d := d + 1) (Nat.le_of_ble_eq_true rfl) [some (.ref 2), some (.int (nI 2))] rfl ?_
  refine am_q_iload_n rfl rfl ?_
  refine am_q_tsw (t := 88) rfl (by decide) ?_
  refine am_q_aload_n rfl rfl ?_
  refine am_q_gr rfl rfl rfl ?_
  refine am_q_gi rfl rfl rfl hV.2.1 ?_
  refine am_q_ireturn rfl rfl rfl ?_
  rfl

theorem x_count3 (d : Nat) (n : Nat) {V : sVal} {W : sWall} {U : List sWall} {K : Nat → Option (sWall × sSeen)} {S : sSeen} {Y : sYear} {μ : am_M2} (ν : am_N2) (hR : xR μ V W U K S Y) (hO : vOk V) (hI : sI (vN V) (vP V) W.1 W.2.1) (ht : W.2.2 < 2 ^ 20) (tl : Nat) (hTp : μ 3 1 = nI tl) : am_run (d + 2) 174 [.ref 2, .int (nI 3)] (am_hp n μ ν) = some (some (.int (qCount V W U S Y tl (nI 3))), am_hp n μ ν) := by
  obtain ⟨hV, hW, hU, hK, hS, hY⟩ := hR
  have h6 := hO.1.1
  have hP8 := hO.1.2.1
  have h8 := sI_8 hO hI
  obtain ⟨-, -, -, hU5, -⟩ := hU
  refine am_r174 (d := d + 1) (Nat.le_of_ble_eq_true rfl) [some (.ref 2), some (.int (nI 3))] rfl ?_
  refine am_q_iload_n rfl rfl ?_
  refine am_q_tsw (t := 96) rfl (by decide) ?_
  refine am_q_aload_n rfl rfl ?_
  refine am_q_gr rfl rfl rfl ?_
  refine am_q_gi rfl rfl rfl hW.2.2 ?_
  refine am_q_ireturn rfl rfl rfl ?_
  rfl

theorem x_count4 (d : Nat) (n : Nat) {V : sVal} {W : sWall} {U : List sWall} {K : Nat → Option (sWall × sSeen)} {S : sSeen} {Y : sYear} {μ : am_M2} (ν : am_N2) (hR : xR μ V W U K S Y) (hO : vOk V) (hI : sI (vN V) (vP V) W.1 W.2.1) (ht : W.2.2 < 2 ^ 20) (tl : Nat) (hTp : μ 3 1 = nI tl) : am_run (d + 2) 174 [.ref 2, .int (nI 4)] (am_hp n μ ν) = some (some (.int (qCount V W U S Y tl (nI 4))), am_hp n μ ν) := by
  obtain ⟨hV, hW, hU, hK, hS, hY⟩ := hR
  have h6 := hO.1.1
  have hP8 := hO.1.2.1
  have h8 := sI_8 hO hI
  obtain ⟨-, -, -, hU5, -⟩ := hU
  refine am_r174 (d := d + 1) (Nat.le_of_ble_eq_true rfl) [some (.ref 2), some (.int (nI 4))] rfl ?_
  refine am_q_iload_n rfl rfl ?_
  refine am_q_tsw (t := 104) rfl (by decide) ?_
  refine am_q_aload_n rfl rfl ?_
  refine am_q_gr rfl rfl rfl ?_
  refine am_q_aload_n rfl rfl ?_
  refine am_q_gr rfl rfl rfl ?_
  refine am_q_gi rfl rfl rfl hW.2.2 ?_
  refine am_q_call rfl rfl (s_coldOf _ _ _ (by omega) _ hV hO) rfl ?_
  refine am_q_ireturn rfl rfl rfl ?_
  rfl

theorem x_count5 (d : Nat) (n : Nat) {V : sVal} {W : sWall} {U : List sWall} {K : Nat → Option (sWall × sSeen)} {S : sSeen} {Y : sYear} {μ : am_M2} (ν : am_N2) (hR : xR μ V W U K S Y) (hO : vOk V) (hI : sI (vN V) (vP V) W.1 W.2.1) (ht : W.2.2 < 2 ^ 20) (tl : Nat) (hTp : μ 3 1 = nI tl) : am_run (d + 2) 174 [.ref 2, .int (nI 5)] (am_hp n μ ν) = some (some (.int (qCount V W U S Y tl (nI 5))), am_hp n μ ν) := by
  obtain ⟨hV, hW, hU, hK, hS, hY⟩ := hR
  have h6 := hO.1.1
  have hP8 := hO.1.2.1
  have h8 := sI_8 hO hI
  obtain ⟨-, -, -, hU5, -⟩ := hU
  refine am_r174 (d := d + 1) (Nat.le_of_ble_eq_true rfl) [some (.ref 2), some (.int (nI 5))] rfl ?_
  refine am_q_iload_n rfl rfl ?_
  refine am_q_tsw (t := 119) rfl (by decide) ?_
  refine am_q_aload_n rfl rfl ?_
  refine am_q_gr rfl rfl rfl ?_
  refine am_q_iload_n rfl rfl ?_
  refine am_q_iconst (v := nI 5) rfl rfl ?_
  refine am_q_isub rfl (show nI 5 - nI 5 = nI 0 from by decide) ?_
  refine am_q_call rfl rfl (s_who35 _ _ (by omega) _ _ hV.1 hW hI) rfl ?_
  refine am_q_ireturn rfl rfl rfl ?_
  rfl

theorem x_count6 (d : Nat) (n : Nat) {V : sVal} {W : sWall} {U : List sWall} {K : Nat → Option (sWall × sSeen)} {S : sSeen} {Y : sYear} {μ : am_M2} (ν : am_N2) (hR : xR μ V W U K S Y) (hO : vOk V) (hI : sI (vN V) (vP V) W.1 W.2.1) (ht : W.2.2 < 2 ^ 20) (tl : Nat) (hTp : μ 3 1 = nI tl) : am_run (d + 2) 174 [.ref 2, .int (nI 6)] (am_hp n μ ν) = some (some (.int (qCount V W U S Y tl (nI 6))), am_hp n μ ν) := by
  obtain ⟨hV, hW, hU, hK, hS, hY⟩ := hR
  have h6 := hO.1.1
  have hP8 := hO.1.2.1
  have h8 := sI_8 hO hI
  obtain ⟨-, -, -, hU5, -⟩ := hU
  refine am_r174 (d := d + 1) (Nat.le_of_ble_eq_true rfl) [some (.ref 2), some (.int (nI 6))] rfl ?_
  refine am_q_iload_n rfl rfl ?_
  refine am_q_tsw (t := 119) rfl (by decide) ?_
  refine am_q_aload_n rfl rfl ?_
  refine am_q_gr rfl rfl rfl ?_
  refine am_q_iload_n rfl rfl ?_
  refine am_q_iconst (v := nI 5) rfl rfl ?_
  refine am_q_isub rfl (show nI 6 - nI 5 = nI 1 from by decide) ?_
  refine am_q_call rfl rfl (s_who35 _ _ (by omega) _ _ hV.1 hW hI) rfl ?_
  refine am_q_ireturn rfl rfl rfl ?_
  rfl

theorem x_count7 (d : Nat) (n : Nat) {V : sVal} {W : sWall} {U : List sWall} {K : Nat → Option (sWall × sSeen)} {S : sSeen} {Y : sYear} {μ : am_M2} (ν : am_N2) (hR : xR μ V W U K S Y) (hO : vOk V) (hI : sI (vN V) (vP V) W.1 W.2.1) (ht : W.2.2 < 2 ^ 20) (tl : Nat) (hTp : μ 3 1 = nI tl) : am_run (d + 2) 174 [.ref 2, .int (nI 7)] (am_hp n μ ν) = some (some (.int (qCount V W U S Y tl (nI 7))), am_hp n μ ν) := by
  obtain ⟨hV, hW, hU, hK, hS, hY⟩ := hR
  have h6 := hO.1.1
  have hP8 := hO.1.2.1
  have h8 := sI_8 hO hI
  obtain ⟨-, -, -, hU5, -⟩ := hU
  refine am_r174 (d := d + 1) (Nat.le_of_ble_eq_true rfl) [some (.ref 2), some (.int (nI 7))] rfl ?_
  refine am_q_iload_n rfl rfl ?_
  refine am_q_tsw (t := 119) rfl (by decide) ?_
  refine am_q_aload_n rfl rfl ?_
  refine am_q_gr rfl rfl rfl ?_
  refine am_q_iload_n rfl rfl ?_
  refine am_q_iconst (v := nI 5) rfl rfl ?_
  refine am_q_isub rfl (show nI 7 - nI 5 = nI 2 from by decide) ?_
  refine am_q_call rfl rfl (s_who35 _ _ (by omega) _ _ hV.1 hW hI) rfl ?_
  refine am_q_ireturn rfl rfl rfl ?_
  rfl

theorem x_count8 (d : Nat) (n : Nat) {V : sVal} {W : sWall} {U : List sWall} {K : Nat → Option (sWall × sSeen)} {S : sSeen} {Y : sYear} {μ : am_M2} (ν : am_N2) (hR : xR μ V W U K S Y) (hO : vOk V) (hI : sI (vN V) (vP V) W.1 W.2.1) (ht : W.2.2 < 2 ^ 20) (tl : Nat) (hTp : μ 3 1 = nI tl) : am_run (d + 2) 174 [.ref 2, .int (nI 8)] (am_hp n μ ν) = some (some (.int (qCount V W U S Y tl (nI 8))), am_hp n μ ν) := by
  obtain ⟨hV, hW, hU, hK, hS, hY⟩ := hR
  have h6 := hO.1.1
  have hP8 := hO.1.2.1
  have h8 := sI_8 hO hI
  obtain ⟨-, -, -, hU5, -⟩ := hU
  refine am_r174 (d := d + 1) (Nat.le_of_ble_eq_true rfl) [some (.ref 2), some (.int (nI 8))] rfl ?_
  refine am_q_iload_n rfl rfl ?_
  refine am_q_tsw (t := 119) rfl (by decide) ?_
  refine am_q_aload_n rfl rfl ?_
  refine am_q_gr rfl rfl rfl ?_
  refine am_q_iload_n rfl rfl ?_
  refine am_q_iconst (v := nI 5) rfl rfl ?_
  refine am_q_isub rfl (show nI 8 - nI 5 = nI 3 from by decide) ?_
  refine am_q_call rfl rfl (s_who35 _ _ (by omega) _ _ hV.1 hW hI) rfl ?_
  refine am_q_ireturn rfl rfl rfl ?_
  rfl

theorem x_count9 (d : Nat) (n : Nat) {V : sVal} {W : sWall} {U : List sWall} {K : Nat → Option (sWall × sSeen)} {S : sSeen} {Y : sYear} {μ : am_M2} (ν : am_N2) (hR : xR μ V W U K S Y) (hO : vOk V) (hI : sI (vN V) (vP V) W.1 W.2.1) (ht : W.2.2 < 2 ^ 20) (tl : Nat) (hTp : μ 3 1 = nI tl) : am_run (d + 2) 174 [.ref 2, .int (nI 9)] (am_hp n μ ν) = some (some (.int (qCount V W U S Y tl (nI 9))), am_hp n μ ν) := by
  obtain ⟨hV, hW, hU, hK, hS, hY⟩ := hR
  have h6 := hO.1.1
  have hP8 := hO.1.2.1
  have h8 := sI_8 hO hI
  obtain ⟨-, -, -, hU5, -⟩ := hU
  refine am_r174 (d := d + 1) (Nat.le_of_ble_eq_true rfl) [some (.ref 2), some (.int (nI 9))] rfl ?_
  refine am_q_iload_n rfl rfl ?_
  refine am_q_tsw (t := 119) rfl (by decide) ?_
  refine am_q_aload_n rfl rfl ?_
  refine am_q_gr rfl rfl rfl ?_
  refine am_q_iload_n rfl rfl ?_
  refine am_q_iconst (v := nI 5) rfl rfl ?_
  refine am_q_isub rfl (show nI 9 - nI 5 = nI 4 from by decide) ?_
  refine am_q_call rfl rfl (s_who35 _ _ (by omega) _ _ hV.1 hW hI) rfl ?_
  refine am_q_ireturn rfl rfl rfl ?_
  rfl

theorem x_count10 (d : Nat) (n : Nat) {V : sVal} {W : sWall} {U : List sWall} {K : Nat → Option (sWall × sSeen)} {S : sSeen} {Y : sYear} {μ : am_M2} (ν : am_N2) (hR : xR μ V W U K S Y) (hO : vOk V) (hI : sI (vN V) (vP V) W.1 W.2.1) (ht : W.2.2 < 2 ^ 20) (tl : Nat) (hTp : μ 3 1 = nI tl) : am_run (d + 2) 174 [.ref 2, .int (nI 10)] (am_hp n μ ν) = some (some (.int (qCount V W U S Y tl (nI 10))), am_hp n μ ν) := by
  obtain ⟨hV, hW, hU, hK, hS, hY⟩ := hR
  have h6 := hO.1.1
  have hP8 := hO.1.2.1
  have h8 := sI_8 hO hI
  obtain ⟨-, -, -, hU5, -⟩ := hU
  refine am_r174 (d := d + 1) (Nat.le_of_ble_eq_true rfl) [some (.ref 2), some (.int (nI 10))] rfl ?_
  refine am_q_iload_n rfl rfl ?_
  refine am_q_tsw (t := 130) rfl (by decide) ?_
  refine am_q_aload_n rfl rfl ?_
  refine am_q_gr rfl rfl rfl ?_
  refine am_q_gi rfl rfl rfl hY.1 ?_
  refine am_q_ireturn rfl rfl rfl ?_
  rfl

theorem x_count11 (d : Nat) (n : Nat) {V : sVal} {W : sWall} {U : List sWall} {K : Nat → Option (sWall × sSeen)} {S : sSeen} {Y : sYear} {μ : am_M2} (ν : am_N2) (hR : xR μ V W U K S Y) (hO : vOk V) (hI : sI (vN V) (vP V) W.1 W.2.1) (ht : W.2.2 < 2 ^ 20) (tl : Nat) (hTp : μ 3 1 = nI tl) : am_run (d + 2) 174 [.ref 2, .int (nI 11)] (am_hp n μ ν) = some (some (.int (qCount V W U S Y tl (nI 11))), am_hp n μ ν) := by
  obtain ⟨hV, hW, hU, hK, hS, hY⟩ := hR
  have h6 := hO.1.1
  have hP8 := hO.1.2.1
  have h8 := sI_8 hO hI
  obtain ⟨-, -, -, hU5, -⟩ := hU
  refine am_r174 (d := d + 1) (Nat.le_of_ble_eq_true rfl) [some (.ref 2), some (.int (nI 11))] rfl ?_
  refine am_q_iload_n rfl rfl ?_
  refine am_q_tsw (t := 138) rfl (by decide) ?_
  refine am_q_aload_n rfl rfl ?_
  refine am_q_gr rfl rfl rfl ?_
  refine am_q_gi rfl rfl rfl hS.1 ?_
  refine am_q_ireturn rfl rfl rfl ?_
  rfl

theorem x_count12 (d : Nat) (n : Nat) {V : sVal} {W : sWall} {U : List sWall} {K : Nat → Option (sWall × sSeen)} {S : sSeen} {Y : sYear} {μ : am_M2} (ν : am_N2) (hR : xR μ V W U K S Y) (hO : vOk V) (hI : sI (vN V) (vP V) W.1 W.2.1) (ht : W.2.2 < 2 ^ 20) (tl : Nat) (hTp : μ 3 1 = nI tl) : am_run (d + 2) 174 [.ref 2, .int (nI 12)] (am_hp n μ ν) = some (some (.int (qCount V W U S Y tl (nI 12))), am_hp n μ ν) := by
  obtain ⟨hV, hW, hU, hK, hS, hY⟩ := hR
  have h6 := hO.1.1
  have hP8 := hO.1.2.1
  have h8 := sI_8 hO hI
  obtain ⟨-, -, -, hU5, -⟩ := hU
  refine am_r174 (d := d + 1) (Nat.le_of_ble_eq_true rfl) [some (.ref 2), some (.int (nI 12))] rfl ?_
  refine am_q_iload_n rfl rfl ?_
  refine am_q_tsw (t := 146) rfl (by decide) ?_
  refine am_q_aload_n rfl rfl ?_
  refine am_q_gr rfl rfl rfl ?_
  refine am_q_gi rfl rfl rfl hU5 ?_
  refine am_q_ireturn rfl rfl rfl ?_
  rfl

theorem x_count13 (d : Nat) (n : Nat) {V : sVal} {W : sWall} {U : List sWall} {K : Nat → Option (sWall × sSeen)} {S : sSeen} {Y : sYear} {μ : am_M2} (ν : am_N2) (hR : xR μ V W U K S Y) (hO : vOk V) (hI : sI (vN V) (vP V) W.1 W.2.1) (ht : W.2.2 < 2 ^ 20) (tl : Nat) (hTp : μ 3 1 = nI tl) : am_run (d + 2) 174 [.ref 2, .int (nI 13)] (am_hp n μ ν) = some (some (.int (qCount V W U S Y tl (nI 13))), am_hp n μ ν) := by
  obtain ⟨hV, hW, hU, hK, hS, hY⟩ := hR
  have h6 := hO.1.1
  have hP8 := hO.1.2.1
  have h8 := sI_8 hO hI
  obtain ⟨-, -, -, hU5, -⟩ := hU
  refine am_r174 (d := d + 1) (Nat.le_of_ble_eq_true rfl) [some (.ref 2), some (.int (nI 13))] rfl ?_
  refine am_q_iload_n rfl rfl ?_
  refine am_q_tsw (t := 154) rfl (by decide) ?_
  refine am_q_aload_n rfl rfl ?_
  refine am_q_gr rfl rfl rfl ?_
  refine am_q_gi rfl rfl rfl hTp ?_
  refine am_q_ireturn rfl rfl rfl ?_
  rfl

theorem x_countN (d : Nat) (w : Int32) (n : Nat) {V : sVal} {W : sWall} {U : List sWall} {K : Nat → Option (sWall × sSeen)} {S : sSeen} {Y : sYear} {μ : am_M2} (ν : am_N2) (hR : xR μ V W U K S Y) (hO : vOk V) (hI : sI (vN V) (vP V) W.1 W.2.1) (ht : W.2.2 < 2 ^ 20) (tl : Nat) (hTp : μ 3 1 = nI tl) (hw : am_ix w 14 = none) : am_run (d + 2) 174 [.ref 2, .int w] (am_hp n μ ν) = some (some (.int (qCount V W U S Y tl w)), am_hp n μ ν) := by
  refine am_r174 (d := d + 1) (Nat.le_of_ble_eq_true rfl) [some (.ref 2), some (.int w)] rfl ?_
  refine am_q_iload_n rfl rfl ?_
  refine am_q_tsw (t := 162) rfl (sw_none (K := 14) hw rfl (by decide) rfl) ?_
  refine am_q_iconst (v := -1) rfl rfl ?_
  refine am_q_ireturn rfl rfl rfl ?_
  unfold qCount; rw [hw]

/-- StoneSecrets.count -/
theorem x_count (d : Nat) (w : Int32) (n : Nat) {V : sVal} {W : sWall} {U : List sWall} {K : Nat → Option (sWall × sSeen)} {S : sSeen} {Y : sYear} {μ : am_M2} (ν : am_N2) (hR : xR μ V W U K S Y) (hO : vOk V) (hI : sI (vN V) (vP V) W.1 W.2.1) (ht : W.2.2 < 2 ^ 20) (tl : Nat) (hTp : μ 3 1 = nI tl) : am_run (d + 2) 174 [.ref 2, .int w] (am_hp n μ ν) = some (some (.int (qCount V W U S Y tl w)), am_hp n μ ν) := by
  cases hw : am_ix w 14 with
  | none => exact x_countN d w n ν hR hO hI ht tl hTp hw
  | some i =>
    obtain ⟨hi, rfl⟩ := sn_ix_in hw (by decide)
    rcases (show i = 0 ∨ i = 1 ∨ i = 2 ∨ i = 3 ∨ i = 4 ∨ i = 5 ∨ i = 6 ∨ i = 7 ∨ i = 8 ∨ i = 9 ∨ i = 10 ∨ i = 11 ∨ i = 12 ∨ i = 13 by omega) with rfl | rfl | rfl | rfl | rfl | rfl | rfl | rfl | rfl | rfl | rfl | rfl | rfl | rfl
    · exact x_count0 d n ν hR hO hI ht tl hTp
    · exact x_count1 d n ν hR hO hI ht tl hTp
    · exact x_count2 d n ν hR hO hI ht tl hTp
    · exact x_count3 d n ν hR hO hI ht tl hTp
    · exact x_count4 d n ν hR hO hI ht tl hTp
    · exact x_count5 d n ν hR hO hI ht tl hTp
    · exact x_count6 d n ν hR hO hI ht tl hTp
    · exact x_count7 d n ν hR hO hI ht tl hTp
    · exact x_count8 d n ν hR hO hI ht tl hTp
    · exact x_count9 d n ν hR hO hI ht tl hTp
    · exact x_count10 d n ν hR hO hI ht tl hTp
    · exact x_count11 d n ν hR hO hI ht tl hTp
    · exact x_count12 d n ν hR hO hI ht tl hTp
    · exact x_count13 d n ν hR hO hI ht tl hTp
/-- two that stand change PLACES -/
def swP (pl : Nat → Option Nat) (s b : Nat) : Nat → Option Nat := fup (fup pl s (pl b)) b (pl s)
def swOk (V : sVal) (pl : Nat → Option Nat) (s b : Nat) : Bool := decide (sNear V (swP pl s b) s (vN V) &&& sn_sp (pl b) = 0) && decide (sNear V (swP pl s b) b (vN V) &&& sn_sp (pl s) = 0)
theorem swP_8 {pl : Nat → Option Nat} {s b : Nat} (h8 : sPl8 pl) (hs : s < 6) (hb : b < 6) : sPl8 (swP pl s b) := by
  intro x hx p hp
  unfold swP fup at hp
  split at hp
  · exact h8 s hs p hp
  · split at hp
    · exact h8 b hb p hp
    · exact h8 x hx p hp
theorem xW_two {μ : am_M2} {pl : Nat → Option Nat} {s b : Nat} (hg : ∀ k, k < 6 → μ 40 k = sn_spot (pl k)) (hs : s < 6) (hb : b < 6) : ∀ k, k < 6 → am_up (am_up μ 40 s (sn_spot (pl b))) 40 b (sn_spot (pl s)) 40 k = sn_spot (swP pl s b k) := by
  intro k hk
  unfold swP fup am_up
  by_cases h1 : k = b
  · simp [h1]
  · by_cases h2 : k = s
    · subst h2; simp [h1]
    · simp [h1, h2, hg k hk]
theorem am_up_back {μ : am_M2} {s b : Nat} {x y u v : Int32} (hs : μ 40 s = u) (hb : μ 40 b = v) : am_up (am_up (am_up (am_up μ 40 s x) 40 b y) 40 s u) 40 b v = μ := by
  funext i k
  unfold am_up
  by_cases h1 : i = 40
  · subst h1
    by_cases h2 : k = b
    · subst h2; simp [hb]
    · by_cases h3 : k = s
      · subst h3; simp [h2, hs]
      · simp [h2, h3]
  · simp [h1]
/-- StoneSecrets.canSwap(II)Z -/
theorem s_canSwap (d : Nat) (n : Nat) {V : sVal} {W : sWall} {μ : am_M2} (ν : am_N2) (hV : xVal μ V) (hO : vOk V) (hW : xWall μ 35 W) (hI : sI (vN V) (vP V) W.1 W.2.1) (ht : W.2.2 < 2 ^ 20) (s b : Nat) (hs : s < vN V) (hb : b < vN V) (hT : xWall μ 38 W) : am_run (d + 4) 154 [.ref 2, .int (nI s), .int (nI b)] (am_hp n μ ν) = some (some (.int (sB (swOk V W.2.1 s b))), am_hp n μ ν) := by
  have h6 := hO.1.1
  have hP8 := hO.1.2.1
  have h8 := sI_8 hO hI
  have h8w := swP_8 h8 (show s < 6 by omega) (show b < 6 by omega)
  have hg := xW_two hT.2.1 (show s < 6 by omega) (show b < 6 by omega)
  have hn : ∀ x, sNear V (swP W.2.1 s b) x (vN V) < 512 := fun x => sNear_lt x h8w _ h6
  refine am_r154 (d := d + 3) (Nat.le_of_ble_eq_true rfl) [some (.ref 2), some (.int (nI s)), some (.int (nI b)), none] rfl ?_
  refine am_q_aload_n rfl rfl ?_
  refine am_q_gr rfl rfl rfl ?_
  refine am_q_gr rfl rfl rfl ?_
  refine am_q_iload_n rfl rfl ?_
  refine am_q_aload_n rfl rfl ?_
  refine am_q_gr rfl rfl rfl ?_
  refine am_q_gr rfl rfl rfl ?_
  refine am_q_iload_n rfl rfl ?_
  refine am_q_iald rfl rfl (by first | exact am_ix_nI (by omega) (by omega) | rfl) (hW.2.1 _ (by omega)) ?_
  refine am_q_iast rfl rfl (by first | exact am_ix_nI (by omega) (by omega) | rfl) rfl ?_
  refine am_q_aload_n rfl rfl ?_
  refine am_q_gr rfl rfl rfl ?_
  refine am_q_gr rfl rfl rfl ?_
  refine am_q_iload_n rfl rfl ?_
  refine am_q_aload_n rfl rfl ?_
  refine am_q_gr rfl rfl rfl ?_
  refine am_q_gr rfl rfl rfl ?_
  refine am_q_iload_n rfl rfl ?_
  refine am_q_iald rfl rfl (by first | exact am_ix_nI (by omega) (by omega) | rfl) (hW.2.1 _ (by omega)) ?_
  refine am_q_iast rfl rfl (by first | exact am_ix_nI (by omega) (by omega) | rfl) rfl ?_
  refine am_q_aload_n rfl rfl ?_
  refine am_q_gr rfl rfl rfl ?_
  refine am_q_iload_n rfl rfl ?_
  refine am_q_aload_n rfl rfl ?_
  refine am_q_gr rfl rfl rfl ?_
  refine am_q_gr rfl rfl rfl ?_
  refine am_q_call rfl rfl (s_nearFoes _ n 40 s ν hs (V := V) (pl := swP W.2.1 s b) (μ := am_up (am_up μ 40 s (sn_spot (W.2.1 b))) 40 b (sn_spot (W.2.1 s))) hV hO rfl hg h8w) rfl ?_
  refine am_q_aload_n rfl rfl ?_
  refine am_q_gr rfl rfl rfl ?_
  refine am_q_gr rfl rfl rfl ?_
  refine am_q_iload_n rfl rfl ?_
  refine am_q_iald rfl rfl (by first | exact am_ix_nI (by omega) (by omega) | rfl) ((hg s (by omega)).trans (show _ = nI (sn_sp (W.2.1 b)) by rw [← sn_spot_eq]; unfold swP fup; by_cases z : s = b; rw [if_pos z, z]; rw [if_neg z, if_pos rfl])) ?_
  refine am_q_iand rfl (sn_and _ _) ?_
  refine am_q_zneN rfl (Nat.lt_of_le_of_lt Nat.and_le_left (Nat.lt_trans (hn s) (by decide))) (fun c_61 => ?_) (fun c_61 => ?_)
  · have hsw : swOk V W.2.1 s b = false := by unfold swOk; simp [c_61]
    refine am_q_iconst (v := nI 0) rfl rfl ?_
    refine am_q_istore_n [some _, some _, some _, some _] rfl (Nat.le_of_ble_eq_true rfl) rfl ?_
    refine am_q_aload_n rfl rfl ?_
    refine am_q_gr rfl rfl rfl ?_
    refine am_q_gr rfl rfl rfl ?_
    refine am_q_iload_n rfl rfl ?_
    refine am_q_aload_n rfl rfl ?_
    refine am_q_gr rfl rfl rfl ?_
    refine am_q_gr rfl rfl rfl ?_
    refine am_q_iload_n rfl rfl ?_
    refine am_q_iald rfl rfl (by first | exact am_ix_nI (by omega) (by omega) | rfl) (hW.2.1 _ (by omega)) ?_
    refine am_q_iast rfl rfl (by first | exact am_ix_nI (by omega) (by omega) | rfl) rfl ?_
    refine am_q_aload_n rfl rfl ?_
    refine am_q_gr rfl rfl rfl ?_
    refine am_q_gr rfl rfl rfl ?_
    refine am_q_iload_n rfl rfl ?_
    refine am_q_aload_n rfl rfl ?_
    refine am_q_gr rfl rfl rfl ?_
    refine am_q_gr rfl rfl rfl ?_
    refine am_q_iload_n rfl rfl ?_
    refine am_q_iald rfl rfl (by first | exact am_ix_nI (by omega) (by omega) | rfl) (hW.2.1 _ (by omega)) ?_
    refine am_q_iast rfl rfl (by first | exact am_ix_nI (by omega) (by omega) | rfl) rfl ?_
    refine am_q_iload_n rfl rfl ?_
    refine am_q_ireturn rfl rfl rfl ?_
    rw [hsw, am_up_back (hT.2.1 s (by omega)) (hT.2.1 b (by omega))]
    rfl
  · refine am_q_aload_n rfl rfl ?_
    refine am_q_gr rfl rfl rfl ?_
    refine am_q_iload_n rfl rfl ?_
    refine am_q_aload_n rfl rfl ?_
    refine am_q_gr rfl rfl rfl ?_
    refine am_q_gr rfl rfl rfl ?_
    refine am_q_call rfl rfl (s_nearFoes _ n 40 b ν hb (V := V) (pl := swP W.2.1 s b) (μ := am_up (am_up μ 40 s (sn_spot (W.2.1 b))) 40 b (sn_spot (W.2.1 s))) hV hO rfl hg h8w) rfl ?_
    refine am_q_aload_n rfl rfl ?_
    refine am_q_gr rfl rfl rfl ?_
    refine am_q_gr rfl rfl rfl ?_
    refine am_q_iload_n rfl rfl ?_
    refine am_q_iald rfl rfl (by first | exact am_ix_nI (by omega) (by omega) | rfl) ((hg b (by omega)).trans (show _ = nI (sn_sp (W.2.1 s)) by rw [← sn_spot_eq]; unfold swP fup; rw [if_pos rfl])) ?_
    refine am_q_iand rfl (sn_and _ _) ?_
    refine am_q_zneN rfl (Nat.lt_of_le_of_lt Nat.and_le_left (Nat.lt_trans (hn b) (by decide))) (fun c_89 => ?_) (fun c_89 => ?_)
    · have hsw : swOk V W.2.1 s b = false := by unfold swOk; simp [c_89]
      refine am_q_iconst (v := nI 0) rfl rfl ?_
      refine am_q_istore_n [some _, some _, some _, some _] rfl (Nat.le_of_ble_eq_true rfl) rfl ?_
      refine am_q_aload_n rfl rfl ?_
      refine am_q_gr rfl rfl rfl ?_
      refine am_q_gr rfl rfl rfl ?_
      refine am_q_iload_n rfl rfl ?_
      refine am_q_aload_n rfl rfl ?_
      refine am_q_gr rfl rfl rfl ?_
      refine am_q_gr rfl rfl rfl ?_
      refine am_q_iload_n rfl rfl ?_
      refine am_q_iald rfl rfl (by first | exact am_ix_nI (by omega) (by omega) | rfl) (hW.2.1 _ (by omega)) ?_
      refine am_q_iast rfl rfl (by first | exact am_ix_nI (by omega) (by omega) | rfl) rfl ?_
      refine am_q_aload_n rfl rfl ?_
      refine am_q_gr rfl rfl rfl ?_
      refine am_q_gr rfl rfl rfl ?_
      refine am_q_iload_n rfl rfl ?_
      refine am_q_aload_n rfl rfl ?_
      refine am_q_gr rfl rfl rfl ?_
      refine am_q_gr rfl rfl rfl ?_
      refine am_q_iload_n rfl rfl ?_
      refine am_q_iald rfl rfl (by first | exact am_ix_nI (by omega) (by omega) | rfl) (hW.2.1 _ (by omega)) ?_
      refine am_q_iast rfl rfl (by first | exact am_ix_nI (by omega) (by omega) | rfl) rfl ?_
      refine am_q_iload_n rfl rfl ?_
      refine am_q_ireturn rfl rfl rfl ?_
      rw [hsw, am_up_back (hT.2.1 s (by omega)) (hT.2.1 b (by omega))]
      rfl
    · have hsw : swOk V W.2.1 s b = true := by unfold swOk; simp [c_61, c_89]
      refine am_q_iconst (v := nI 1) rfl rfl ?_
      refine am_q_goto rfl ?_
      refine am_q_istore_n [some _, some _, some _, some _] rfl (Nat.le_of_ble_eq_true rfl) rfl ?_
      refine am_q_aload_n rfl rfl ?_
      refine am_q_gr rfl rfl rfl ?_
      refine am_q_gr rfl rfl rfl ?_
      refine am_q_iload_n rfl rfl ?_
      refine am_q_aload_n rfl rfl ?_
      refine am_q_gr rfl rfl rfl ?_
      refine am_q_gr rfl rfl rfl ?_
      refine am_q_iload_n rfl rfl ?_
      refine am_q_iald rfl rfl (by first | exact am_ix_nI (by omega) (by omega) | rfl) (hW.2.1 _ (by omega)) ?_
      refine am_q_iast rfl rfl (by first | exact am_ix_nI (by omega) (by omega) | rfl) rfl ?_
      refine am_q_aload_n rfl rfl ?_
      refine am_q_gr rfl rfl rfl ?_
      refine am_q_gr rfl rfl rfl ?_
      refine am_q_iload_n rfl rfl ?_
      refine am_q_aload_n rfl rfl ?_
      refine am_q_gr rfl rfl rfl ?_
      refine am_q_gr rfl rfl rfl ?_
      refine am_q_iload_n rfl rfl ?_
      refine am_q_iald rfl rfl (by first | exact am_ix_nI (by omega) (by omega) | rfl) (hW.2.1 _ (by omega)) ?_
      refine am_q_iast rfl rfl (by first | exact am_ix_nI (by omega) (by omega) | rfl) rfl ?_
      refine am_q_iload_n rfl rfl ?_
      refine am_q_ireturn rfl rfl rfl ?_
      rw [hsw, am_up_back (hT.2.1 s (by omega)) (hT.2.1 b (by omega))]
      rfl

def sSwaps (V : sVal) (W : sWall) : Nat → Nat := lpF (fun i x => lpF (fun b y => if W.1 i = 2 ∧ W.1 b = 2 ∧ swOk V W.2.1 i b = true then y + 1 else y) x i) 0
theorem sSwaps_le (V : sVal) (W : sWall) (i : Nat) : ∀ n x, lpF (fun b y => if W.1 i = 2 ∧ W.1 b = 2 ∧ swOk V W.2.1 i b = true then y + 1 else y) x n ≤ x + n
  | 0, x => Nat.le_refl _
  | n + 1, x => by
    have := sSwaps_le V W i n x
    rw [lpF_s]
    split <;> omega
theorem sSwaps_b (V : sVal) (W : sWall) : ∀ n, n ≤ 6 → sSwaps V W n ≤ 6 * n
  | 0, _ => Nat.le_refl _
  | n + 1, h => by
    have h1 := sSwaps_b V W n (by omega)
    have h2 := sSwaps_le V W n n (sSwaps V W n)
    rw [sSwaps, lpF_s]
    rw [sSwaps] at h1 h2
    omega
theorem x_swapsI (d i x : Nat) (n : Nat) {V : sVal} {W : sWall} {μ : am_M2} (ν : am_N2) (hV : xVal μ V) (hO : vOk V) (hW : xWall μ 35 W) (hI : sI (vN V) (vP V) W.1 W.2.1) (ht : W.2.2 < 2 ^ 20) (hT : xWall μ 38 W) (hi : i < vN V) (hx : x < 2 ^ 20) (Q : am_R → Prop) (K : am_w (d + 4) (Option.some FieldType.int) am_g153 75 [some (.ref 2), some (.int (nI (lpF (fun b y => if W.1 i = 2 ∧ W.1 b = 2 ∧ swOk V W.2.1 i b = true then y + 1 else y) x i))), some (.int (nI i)), some (.int (nI i))] [] (am_hp n μ ν) Q) : ∀ (m j : Nat) , j + m = i → am_w (d + 4) (Option.some FieldType.int) am_g153 28 [some (.ref 2), some (.int (nI (lpF (fun b y => if W.1 i = 2 ∧ W.1 b = 2 ∧ swOk V W.2.1 i b = true then y + 1 else y) x j))), some (.int (nI i)), some (.int (nI j))] [] (am_hp n μ ν) (Q) := by
  intro m
  induction m with
  | zero =>
    intro j  hj
    have h6 := hO.1.1
    have hP8 := hO.1.2.1
    have h8 := sI_8 hO hI
    have hji : j = i := by omega
    subst hji
    refine am_q_iload_n rfl rfl ?_
    refine am_q_iload_n rfl rfl ?_
    refine am_q_igeN rfl (by omega) (by omega) (fun c_30 => ?_) (fun c_30 => absurd c_30 (by omega))
    exact K
  | succ m ih =>
    intro j  hj
    have h6 := hO.1.1
    have hP8 := hO.1.2.1
    have h8 := sI_8 hO hI
    have e := ih (j + 1) (by omega)
    rw [lpF_s] at e
    refine am_q_iload_n rfl rfl ?_
    refine am_q_iload_n rfl rfl ?_
    refine am_q_igeN rfl (by omega) (by omega) (fun c_30 => absurd c_30 (by omega)) (fun c_30 => ?_)
    refine am_q_aload_n rfl rfl ?_
    refine am_q_gr rfl rfl rfl ?_
    refine am_q_iload_n rfl rfl ?_
    refine am_q_iconst (v := nI 2) rfl rfl ?_
    refine am_q_call rfl rfl (s_is35 _ _ _ (by omega) _ _ hV.1 hW hI) rfl ?_
    rw [sIs_nI (show i < vN V by omega) (by omega)]
    refine am_q_if_eqB rfl (fun c_42 => ?_) (fun c_42 => ?_)
    · rw [if_neg (fun z => by simp [z.1] at c_42)] at e
      refine am_q_iinc [some _, some _, some _, some _] rfl (c := nI 1) rfl rfl (Nat.le_of_ble_eq_true rfl) (nI_add _ _) rfl ?_
      refine am_q_goto rfl ?_
      exact e
    · have c_42 := of_decide_eq_true c_42
      refine am_q_aload_n rfl rfl ?_
      refine am_q_gr rfl rfl rfl ?_
      refine am_q_iload_n rfl rfl ?_
      refine am_q_iconst (v := nI 2) rfl rfl ?_
      refine am_q_call rfl rfl (s_is35 _ _ _ (by omega) _ _ hV.1 hW hI) rfl ?_
      rw [sIs_nI (show j < vN V by omega) (by omega)]
      refine am_q_if_eqB rfl (fun c_54 => ?_) (fun c_54 => ?_)
      · rw [if_neg (fun z => by simp [z.2.1] at c_54)] at e
        refine am_q_iinc [some _, some _, some _, some _] rfl (c := nI 1) rfl rfl (Nat.le_of_ble_eq_true rfl) (nI_add _ _) rfl ?_
        refine am_q_goto rfl ?_
        exact e
      · have c_54 := of_decide_eq_true c_54
        refine am_q_aload_n rfl rfl ?_
        refine am_q_iload_n rfl rfl ?_
        refine am_q_iload_n rfl rfl ?_
        refine am_q_call rfl rfl (s_canSwap _ n ν hV hO hW hI ht i j (by omega) (by omega) hT) rfl ?_
        refine am_q_if_eqB rfl (fun c_63 => ?_) (fun c_63 => ?_)
        · rw [if_neg (fun z => by simp [z.2.2] at c_63)] at e
          refine am_q_iinc [some _, some _, some _, some _] rfl (c := nI 1) rfl rfl (Nat.le_of_ble_eq_true rfl) (nI_add _ _) rfl ?_
          refine am_q_goto rfl ?_
          exact e
        · rw [if_pos ⟨c_42, c_54, c_63⟩] at e
          refine am_q_iinc [some _, some _, some _, some _] rfl (c := nI 1) rfl rfl (Nat.le_of_ble_eq_true rfl) (nI_add _ _) rfl ?_
          refine am_q_iinc [some _, some _, some _, some _] rfl (c := nI 1) rfl rfl (Nat.le_of_ble_eq_true rfl) (nI_add _ _) rfl ?_
          refine am_q_goto rfl ?_
          exact e

theorem x_swapsL (d : Nat) (n : Nat) {V : sVal} {W : sWall} {μ : am_M2} (ν : am_N2) (hV : xVal μ V) (hO : vOk V) (hW : xWall μ 35 W) (hI : sI (vN V) (vP V) W.1 W.2.1) (ht : W.2.2 < 2 ^ 20) (hT : xWall μ 38 W) : ∀ (m j : Nat) (o3 : Option Value), j + m = vN V → am_w (d + 4) (Option.some FieldType.int) am_g153 15 [some (.ref 2), some (.int (nI (sSwaps V W j))), some (.int (nI j)), o3] [] (am_hp n μ ν) (fun y => y = (some (.int (nI (sSwaps V W (vN V)))), am_hp n μ ν)) := by
  intro m
  induction m with
  | zero =>
    intro j o3 hj
    have h6 := hO.1.1
    have hP8 := hO.1.2.1
    have h8 := sI_8 hO hI
    refine am_q_iload_n rfl rfl ?_
    refine am_q_aload_n rfl rfl ?_
    refine am_q_gr rfl rfl rfl ?_
    refine am_q_gi rfl rfl rfl hV.1.1 ?_
    refine am_q_igeN rfl (by omega) (by omega) (fun c_23 => ?_) (fun c_23 => absurd c_23 (by omega))
    refine am_q_iload_n rfl rfl ?_
    refine am_q_ireturn rfl rfl rfl ?_
    rw [show j = vN V by omega]
  | succ m ih =>
    intro j o3 hj
    have h6 := hO.1.1
    have hP8 := hO.1.2.1
    have h8 := sI_8 hO hI
    have hb := sSwaps_b V W j (by omega)
    refine am_q_iload_n rfl rfl ?_
    refine am_q_aload_n rfl rfl ?_
    refine am_q_gr rfl rfl rfl ?_
    refine am_q_gi rfl rfl rfl hV.1.1 ?_
    refine am_q_igeN rfl (by omega) (by omega) (fun c_23 => absurd c_23 (by omega)) (fun c_23 => ?_)
    refine am_q_iconst (v := nI 0) rfl rfl ?_
    refine am_q_istore_n [some _, some _, some _, some _] rfl (Nat.le_of_ble_eq_true rfl) rfl ?_
    refine x_swapsI d j (sSwaps V W j) n ν hV hO hW hI ht hT (by omega) (by omega) _ ?_ j 0 (by omega)
    refine am_q_iinc [some _, some _, some _, some _] rfl (c := nI 1) rfl rfl (Nat.le_of_ble_eq_true rfl) (nI_add _ _) rfl ?_
    refine am_q_goto rfl ?_
    exact ih (j + 1) _ (by omega)

/-- StoneSecrets.swaps()I -/
theorem x_swaps (d : Nat) (n : Nat) {V : sVal} {W : sWall} {μ : am_M2} (ν : am_N2) (hV : xVal μ V) (hO : vOk V) (hW : xWall μ 35 W) (hI : sI (vN V) (vP V) W.1 W.2.1) (ht : W.2.2 < 2 ^ 20) : ∃ (μ' : am_M2), am_run (d + 5) 153 [.ref 2] (am_hp n μ ν) = some (some (.int (nI (sSwaps V W (vN V)))), am_hp n μ' ν) ∧ fr μ μ' := by
  obtain ⟨μ1, hc, hf, hT⟩ := s_tcopy (d + 3) n ν hW
  have key : ∃ r, am_run (d + 5) 153 [.ref 2] (am_hp n μ ν) = some r ∧ ∃ (μ' : am_M2), r = (some (.int (nI (sSwaps V W (vN V)))), am_hp n μ' ν) ∧ fr μ μ' := am_run_wE (k := 153) (d := d + 4) rfl rfl (Nat.le_of_ble_eq_true rfl) [some (.ref 2), none, none, none] rfl (by
    refine am_q_iconst (v := nI 0) rfl rfl ?_
    refine am_q_istore_n [some _, some _, none, none] rfl (Nat.le_of_ble_eq_true rfl) rfl ?_
    refine am_q_aload_n rfl rfl ?_
    refine am_q_gr rfl rfl rfl ?_
    refine am_q_aload_n rfl rfl ?_
    refine am_q_gr rfl rfl rfl ?_
    refine am_q_call rfl rfl (hc) rfl ?_
    refine am_q_iconst (v := nI 0) rfl rfl ?_
    refine am_q_istore_n [some _, some _, some _, none] rfl (Nat.le_of_ble_eq_true rfl) rfl ?_
    exact am_w_mono (fun r hr => ⟨μ1, hr, hf⟩) (x_swapsL d n ν (xVal_fr hf hV) hO (xW_fr hf (Or.inl rfl) hW) hI ht hT (vN V) 0 none (by omega)))
  obtain ⟨r, h1, μ', h2, h3⟩ := key
  exact ⟨μ', by rw [h1, h2], h3⟩
