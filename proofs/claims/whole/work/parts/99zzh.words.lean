abbrev rs_X : String := "java/util/NoSuchElementException"
abbrev rs_at : List Cond := vx_at0 "StoneSecrets" 332 rs_X ["java/lang/RuntimeException", "java/lang/Exception"]
abbrev rs_B : List Cond := rs_at.filter (fun w => !goodWord w)
theorem rs_Bf : ∀ w ∈ rs_B, w.faceAtom = true ∧ w.onTables = true ∧ w ∈ lw_tbl := by decide +kernel
theorem rs_Bc : Cond.castable rs_X rs_X ∈ rs_B := by decide +kernel
theorem rs_in : ∀ w ∈ rs_at.filter goodWord, w ∈ lw_tbl := by decide +kernel
theorem rs_ot : ∀ w ∈ Cond.classLink "StoneSecrets" 330 rs_X :: Cond.initialized rs_X :: rs_at, vx_ot w = true := by decide +kernel
theorem rs_w1 : Cond.classLink "StoneSecrets" 330 rs_X ∈ am_gw := am_gw_in (by decide +kernel) rfl
theorem rs_w2 : Cond.initialized rs_X ∈ am_gw := am_gw_in (by decide +kernel) rfl
theorem rs_w3 : Cond.methodLink "StoneSecrets" 327 ⟨"StoneSecrets", "isDigit", "(I)Z"⟩ ∈ am_gw := am_gw_in (by decide +kernel) rfl
theorem rs_w4 : Cond.methodLink "StoneSecrets" 333 ⟨"StoneSecrets", "gain", "(IIIII)I"⟩ ∈ am_gw := am_gw_in (by decide +kernel) rfl
abbrev rs_y : MethodName := ⟨"StoneSecrets", "rests", "(IIII)I"⟩
abbrev rl_y : MethodName := ⟨"StoneSecretsLaw", "rests", "(LStoneSecrets;IIII[J)I"⟩
theorem rs_w5 : Cond.code rs_y prog_1_method_46_code 11 (some .int) ∈ am_gw := am_gw_in (by decide +kernel) rfl
theorem rs_w6 : Cond.instanceMethod rs_y ∈ am_gw := am_gw_in (by decide +kernel) rfl
theorem rs_w7 : Cond.selects "StoneSecrets" rs_y rs_y ∈ am_gw := am_gw_in (by decide +kernel) rfl
theorem rs_w8 : Cond.initialized "StoneSecrets" ∈ am_gw := am_gw_in (by decide +kernel) rfl
theorem rs_w9 : Cond.methodLink "StoneSecretsLaw" 7 rs_y ∈ am_gw := am_gw_in (by decide +kernel) rfl
theorem rl_w1 : Cond.codeWith rl_y method_3_code 7 (some .int) [(0, 14, 17, 13)] ∈ am_gw := am_gw_in (by decide +kernel) rfl
theorem rl_w2 : Cond.static rl_y ∈ am_gw := am_gw_in (by decide +kernel) rfl
theorem rl_w3 : Cond.initialized "StoneSecretsLaw" ∈ am_gw := am_gw_in (by decide +kernel) rfl
theorem rl_w4 : Cond.methodLink "StoneSecretsLaw" 206 rl_y ∈ am_gw := am_gw_in (by decide +kernel) rfl
theorem rl_w5 : Cond.classLink "StoneSecretsLaw" 13 rs_X ∈ am_gw := am_gw_in (by decide +kernel) rfl
theorem rs_wc : Cond.castable rs_X rs_X ∈ lw_tbl := by decide +kernel
theorem rs_lU : Cond.laysStatic Bundle.tN "UNASSIGNED_STACK" Bundle.steD ∈ lw_tbl := by decide +kernel
theorem rs_lN : Cond.laysStatic Bundle.tN "SUPPRESSED_SENTINEL" Bundle.listD ∈ lw_tbl := by decide +kernel
theorem rs_iT : Cond.initialized Bundle.tN ∈ lw_tbl := by decide +kernel
theorem rs_fit : Bundle.fit rs_X = true ∧ (∀ n ∈ ["java/lang/RuntimeException", "java/lang/Exception"], Bundle.fit n = true) := by decide +kernel