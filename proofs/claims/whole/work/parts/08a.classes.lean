set_option maxRecDepth 100000 in
theorem am_lw_0 : (u_ws RX0 TX0 2).map some = [413, 415].map am_tb := rfl
set_option maxRecDepth 100000 in
theorem am_li_0 : [some (Cond.instantiable RX0 2), some (Cond.initialized RX0)] = [405, 112].map am_tb := rfl
set_option maxRecDepth 100000 in
theorem am_lw_1 : (u_ws RX1 TX1 6).map some = [391, 393, 395, 397, 399, 401].map am_tb := rfl
set_option maxRecDepth 100000 in
theorem am_li_1 : [some (Cond.instantiable RX1 6), some (Cond.initialized RX1)] = [379, 111].map am_tb := rfl
set_option maxRecDepth 100000 in
theorem am_lw_2 : (u_ws RX2 TX2 3).map some = [186, 188, 190].map am_tb := rfl
set_option maxRecDepth 100000 in
theorem am_li_2 : [some (Cond.instantiable RX2 3), some (Cond.initialized RX2)] = [178, 105].map am_tb := rfl
set_option maxRecDepth 100000 in
theorem am_lw_3 : (u_ws RX3 TX3 6).map some = [333, 335, 337, 339, 341, 343].map am_tb := rfl
set_option maxRecDepth 100000 in
theorem am_li_3 : [some (Cond.instantiable RX3 6), some (Cond.initialized RX3)] = [297, 108].map am_tb := rfl
set_option maxRecDepth 100000 in
theorem am_lw_4 : (u_ws RX4 TX4 4).map some = [317, 319, 321, 323].map am_tb := rfl
set_option maxRecDepth 100000 in
theorem am_li_4 : [some (Cond.instantiable RX4 4), some (Cond.initialized RX4)] = [307, 109].map am_tb := rfl
set_option maxRecDepth 100000 in
theorem am_lw_5 : (u_ws RX5 TX5 8).map some = [153, 155, 157, 159, 161, 163, 165, 167].map am_tb := rfl
set_option maxRecDepth 100000 in
theorem am_li_5 : [some (Cond.instantiable RX5 8), some (Cond.initialized RX5)] = [131, 103].map am_tb := rfl
set_option maxRecDepth 100000 in
theorem am_lw_6 : (u_ws RX6 TX6 13).map some = [224, 226, 228, 230, 232, 234, 236, 238, 240, 242, 244, 246, 248].map am_tb := rfl
set_option maxRecDepth 100000 in
theorem am_li_6 : [some (Cond.instantiable RX6 13), some (Cond.initialized RX6)] = [172, 104].map am_tb := rfl
set_option maxRecDepth 100000 in
theorem am_lw_7 : (u_ws RX7 TX7 4).map some = [287, 289, 291, 293].map am_tb := rfl
set_option maxRecDepth 100000 in
theorem am_li_7 : [some (Cond.instantiable RX7 4), some (Cond.initialized RX7)] = [275, 107].map am_tb := rfl
set_option maxRecDepth 100000 in
theorem am_lw_8 : (u_ws RX8 TX8 7).map some = [363, 365, 367, 369, 371, 373, 375].map am_tb := rfl
set_option maxRecDepth 100000 in
theorem am_li_8 : [some (Cond.instantiable RX8 7), some (Cond.initialized RX8)] = [349, 110].map am_tb := rfl
set_option maxRecDepth 100000 in
theorem am_lw_9 : (u_ws RX9 TX9 4).map some = [265, 267, 269, 271].map am_tb := rfl
set_option maxRecDepth 100000 in
theorem am_li_9 : [some (Cond.instantiable RX9 4), some (Cond.initialized RX9)] = [252, 106].map am_tb := rfl
set_option maxRecDepth 100000 in
theorem am_lw_10 : (u_ws RX10 TX10 13).map some = [431, 433, 435, 437, 439, 441, 443, 445, 447, 449, 451, 453, 455].map am_tb := rfl
set_option maxRecDepth 100000 in
theorem am_li_10 : [some (Cond.instantiable RX10 13), some (Cond.initialized RX10)] = [123, 102].map am_tb := rfl
set_option maxRecDepth 100000 in
theorem am_lw_11 : (u_ws RX11 TX11 33).map some = [1329, 1331, 1333, 1335, 1337, 1339, 1341, 1343, 1345, 1347, 1349, 1351, 1353, 1355, 1357, 1359, 1361, 1363, 1365, 1367, 1369, 1371, 1373, 1375, 1377, 1379, 1381, 1383, 1385, 1387, 1389, 1391, 1393].map am_tb := rfl
set_option maxRecDepth 100000 in
theorem am_li_11 : [some (Cond.instantiable RX11 33), some (Cond.initialized RX11)] = [1255, 113].map am_tb := rfl
def am_dft (t : FieldType) : Option Nat ⊕ Bool := match t with
  | .long => .inr false
  | .object _ => .inl none
  | .array _ => .inl none
  | _ => .inr true
def am_clP (c : Nat) (q : vw_C) : Prop := (∀ w ∈ u_ws q.1 q.2.1 q.2.2, w ∈ am_gw) ∧ (∀ k, k < q.2.2 → (q.2.1 k).1 = q.1) ∧ (∀ k, k < q.2.2 → parseFieldDescriptor (q.2.1 k).2.2.1 = some (am_ty c k)) ∧ (∀ a, a < q.2.2 → ∀ b, b < q.2.2 → a ≠ b → (q.2.1 a).2.1 ≠ (q.2.1 b).2.1) ∧ Cond.instantiable q.1 q.2.2 ∈ am_gw ∧ Cond.initialized q.1 ∈ am_gw ∧
  ((am_k0 c).length = q.2.2 ∧ ∀ k, k < q.2.2 → (am_k0 c)[k]? = some (am_dft (am_ty c k)) ∧ (am_ty c k = .int ∨ am_ty c k = .boolean ∨ am_ty c k = .long ∨ (∃ C, am_ty c k = .object C) ∨ ∃ t, am_ty c k = .array t)) ∧ am_own c = q.1
theorem am_lay_in {C : String} {T : u_T} {N : Nat} {ps : List Nat} (h : (u_ws C T N).map some = ps.map am_tb) : ∀ w ∈ u_ws C T N, w ∈ am_gw := by
  intro w hw
  have h1 := am_rows (f := some) h hw rfl
  refine am_gw_in h1 ?_
  obtain ⟨k, -, hk⟩ := List.mem_map.mp hw
  rw [← hk]
  unfold u_lay
  split <;> rfl
theorem am_li_in {C : String} {N : Nat} {ps : List Nat} (h : [some (Cond.instantiable C N), some (Cond.initialized C)] = ps.map am_tb) : Cond.instantiable C N ∈ am_gw ∧ Cond.initialized C ∈ am_gw := by
  have h1 : ([Cond.instantiable C N, Cond.initialized C]).map some = ps.map am_tb := h
  exact ⟨am_gw_in (am_rows (f := some) h1 List.mem_cons_self rfl) rfl, am_gw_in (am_rows (f := some) h1 (List.mem_cons_of_mem _ List.mem_cons_self) rfl) rfl⟩
theorem am_cl_0 : am_clP 0 (RX0, TX0, 2) := by
  refine ⟨am_lay_in am_lw_0, by decide +kernel, tyX0_ok, nmX0, (am_li_in am_li_0).1, (am_li_in am_li_0).2, ⟨rfl, fun k hk => ?_⟩, rfl⟩
  replace hk : k < 2 := hk
  match k, hk with
  | 0, _ => exact ⟨rfl, Or.inr (Or.inr (Or.inr (Or.inl ⟨_, rfl⟩)))⟩
  | 1, _ => exact ⟨rfl, Or.inr (Or.inr (Or.inr (Or.inr ⟨_, rfl⟩)))⟩
  | n + 2, hk => exact absurd hk (by omega)
theorem am_cl_1 : am_clP 1 (RX1, TX1, 6) := by
  refine ⟨am_lay_in am_lw_1, by decide +kernel, tyX1_ok, nmX1, (am_li_in am_li_1).1, (am_li_in am_li_1).2, ⟨rfl, fun k hk => ?_⟩, rfl⟩
  replace hk : k < 6 := hk
  match k, hk with
  | 0, _ => exact ⟨rfl, Or.inr (Or.inr (Or.inr (Or.inl ⟨_, rfl⟩)))⟩
  | 1, _ => exact ⟨rfl, Or.inr (Or.inr (Or.inr (Or.inr ⟨_, rfl⟩)))⟩
  | 2, _ => exact ⟨rfl, Or.inr (Or.inr (Or.inr (Or.inr ⟨_, rfl⟩)))⟩
  | 3, _ => exact ⟨rfl, Or.inr (Or.inr (Or.inr (Or.inr ⟨_, rfl⟩)))⟩
  | 4, _ => exact ⟨rfl, Or.inr (Or.inr (Or.inr (Or.inr ⟨_, rfl⟩)))⟩
  | 5, _ => exact ⟨rfl, Or.inl rfl⟩
  | n + 6, hk => exact absurd hk (by omega)
theorem am_cl_2 : am_clP 2 (RX2, TX2, 3) := by
  refine ⟨am_lay_in am_lw_2, by decide +kernel, tyX2_ok, nmX2, (am_li_in am_li_2).1, (am_li_in am_li_2).2, ⟨rfl, fun k hk => ?_⟩, rfl⟩
  replace hk : k < 3 := hk
  match k, hk with
  | 0, _ => exact ⟨rfl, Or.inr (Or.inr (Or.inr (Or.inr ⟨_, rfl⟩)))⟩
  | 1, _ => exact ⟨rfl, Or.inr (Or.inr (Or.inr (Or.inr ⟨_, rfl⟩)))⟩
  | 2, _ => exact ⟨rfl, Or.inl rfl⟩
  | n + 3, hk => exact absurd hk (by omega)
theorem am_cl_3 : am_clP 3 (RX3, TX3, 6) := by
  refine ⟨am_lay_in am_lw_3, by decide +kernel, tyX3_ok, nmX3, (am_li_in am_li_3).1, (am_li_in am_li_3).2, ⟨rfl, fun k hk => ?_⟩, rfl⟩
  replace hk : k < 6 := hk
  match k, hk with
  | 0, _ => exact ⟨rfl, Or.inr (Or.inr (Or.inr (Or.inr ⟨_, rfl⟩)))⟩
  | 1, _ => exact ⟨rfl, Or.inr (Or.inr (Or.inr (Or.inr ⟨_, rfl⟩)))⟩
  | 2, _ => exact ⟨rfl, Or.inr (Or.inr (Or.inr (Or.inr ⟨_, rfl⟩)))⟩
  | 3, _ => exact ⟨rfl, Or.inl rfl⟩
  | 4, _ => exact ⟨rfl, Or.inl rfl⟩
  | 5, _ => exact ⟨rfl, Or.inl rfl⟩
  | n + 6, hk => exact absurd hk (by omega)
theorem am_cl_4 : am_clP 4 (RX4, TX4, 4) := by
  refine ⟨am_lay_in am_lw_4, by decide +kernel, tyX4_ok, nmX4, (am_li_in am_li_4).1, (am_li_in am_li_4).2, ⟨rfl, fun k hk => ?_⟩, rfl⟩
  replace hk : k < 4 := hk
  match k, hk with
  | 0, _ => exact ⟨rfl, Or.inr (Or.inr (Or.inr (Or.inr ⟨_, rfl⟩)))⟩
  | 1, _ => exact ⟨rfl, Or.inr (Or.inr (Or.inr (Or.inr ⟨_, rfl⟩)))⟩
  | 2, _ => exact ⟨rfl, Or.inl rfl⟩
  | 3, _ => exact ⟨rfl, Or.inl rfl⟩
  | n + 4, hk => exact absurd hk (by omega)
theorem am_cl_5 : am_clP 5 (RX5, TX5, 8) := by
  refine ⟨am_lay_in am_lw_5, by decide +kernel, tyX5_ok, nmX5, (am_li_in am_li_5).1, (am_li_in am_li_5).2, ⟨rfl, fun k hk => ?_⟩, rfl⟩
  replace hk : k < 8 := hk
  match k, hk with
  | 0, _ => exact ⟨rfl, Or.inr (Or.inr (Or.inr (Or.inr ⟨_, rfl⟩)))⟩
  | 1, _ => exact ⟨rfl, Or.inl rfl⟩
  | 2, _ => exact ⟨rfl, Or.inl rfl⟩
  | 3, _ => exact ⟨rfl, Or.inl rfl⟩
  | 4, _ => exact ⟨rfl, Or.inl rfl⟩
  | 5, _ => exact ⟨rfl, Or.inl rfl⟩
  | 6, _ => exact ⟨rfl, Or.inr (Or.inr (Or.inl rfl))⟩
  | 7, _ => exact ⟨rfl, Or.inl rfl⟩
  | n + 8, hk => exact absurd hk (by omega)
theorem am_cl_6 : am_clP 6 (RX6, TX6, 13) := by
  refine ⟨am_lay_in am_lw_6, by decide +kernel, tyX6_ok, nmX6, (am_li_in am_li_6).1, (am_li_in am_li_6).2, ⟨rfl, fun k hk => ?_⟩, rfl⟩
  replace hk : k < 13 := hk
  match k, hk with
  | 0, _ => exact ⟨rfl, Or.inr (Or.inr (Or.inr (Or.inr ⟨_, rfl⟩)))⟩
  | 1, _ => exact ⟨rfl, Or.inr (Or.inr (Or.inr (Or.inr ⟨_, rfl⟩)))⟩
  | 2, _ => exact ⟨rfl, Or.inr (Or.inr (Or.inr (Or.inr ⟨_, rfl⟩)))⟩
  | 3, _ => exact ⟨rfl, Or.inr (Or.inr (Or.inr (Or.inr ⟨_, rfl⟩)))⟩
  | 4, _ => exact ⟨rfl, Or.inr (Or.inr (Or.inr (Or.inr ⟨_, rfl⟩)))⟩
  | 5, _ => exact ⟨rfl, Or.inr (Or.inr (Or.inr (Or.inr ⟨_, rfl⟩)))⟩
  | 6, _ => exact ⟨rfl, Or.inr (Or.inr (Or.inr (Or.inr ⟨_, rfl⟩)))⟩
  | 7, _ => exact ⟨rfl, Or.inr (Or.inr (Or.inr (Or.inl ⟨_, rfl⟩)))⟩
  | 8, _ => exact ⟨rfl, Or.inl rfl⟩
  | 9, _ => exact ⟨rfl, Or.inl rfl⟩
  | 10, _ => exact ⟨rfl, Or.inl rfl⟩
  | 11, _ => exact ⟨rfl, Or.inl rfl⟩
  | 12, _ => exact ⟨rfl, Or.inr (Or.inl rfl)⟩
  | n + 13, hk => exact absurd hk (by omega)
theorem am_cl_7 : am_clP 7 (RX7, TX7, 4) := by
  refine ⟨am_lay_in am_lw_7, by decide +kernel, tyX7_ok, nmX7, (am_li_in am_li_7).1, (am_li_in am_li_7).2, ⟨rfl, fun k hk => ?_⟩, rfl⟩
  replace hk : k < 4 := hk
  match k, hk with
  | 0, _ => exact ⟨rfl, Or.inr (Or.inr (Or.inr (Or.inl ⟨_, rfl⟩)))⟩
  | 1, _ => exact ⟨rfl, Or.inr (Or.inr (Or.inr (Or.inr ⟨_, rfl⟩)))⟩
  | 2, _ => exact ⟨rfl, Or.inr (Or.inr (Or.inr (Or.inr ⟨_, rfl⟩)))⟩
  | 3, _ => exact ⟨rfl, Or.inl rfl⟩
  | n + 4, hk => exact absurd hk (by omega)
theorem am_cl_8 : am_clP 8 (RX8, TX8, 7) := by
  refine ⟨am_lay_in am_lw_8, by decide +kernel, tyX8_ok, nmX8, (am_li_in am_li_8).1, (am_li_in am_li_8).2, ⟨rfl, fun k hk => ?_⟩, rfl⟩
  replace hk : k < 7 := hk
  match k, hk with
  | 0, _ => exact ⟨rfl, Or.inr (Or.inr (Or.inr (Or.inl ⟨_, rfl⟩)))⟩
  | 1, _ => exact ⟨rfl, Or.inr (Or.inr (Or.inr (Or.inr ⟨_, rfl⟩)))⟩
  | 2, _ => exact ⟨rfl, Or.inr (Or.inr (Or.inr (Or.inr ⟨_, rfl⟩)))⟩
  | 3, _ => exact ⟨rfl, Or.inr (Or.inr (Or.inr (Or.inr ⟨_, rfl⟩)))⟩
  | 4, _ => exact ⟨rfl, Or.inr (Or.inr (Or.inr (Or.inr ⟨_, rfl⟩)))⟩
  | 5, _ => exact ⟨rfl, Or.inl rfl⟩
  | 6, _ => exact ⟨rfl, Or.inr (Or.inl rfl)⟩
  | n + 7, hk => exact absurd hk (by omega)
theorem am_cl_9 : am_clP 9 (RX9, TX9, 4) := by
  refine ⟨am_lay_in am_lw_9, by decide +kernel, tyX9_ok, nmX9, (am_li_in am_li_9).1, (am_li_in am_li_9).2, ⟨rfl, fun k hk => ?_⟩, rfl⟩
  replace hk : k < 4 := hk
  match k, hk with
  | 0, _ => exact ⟨rfl, Or.inr (Or.inr (Or.inr (Or.inr ⟨_, rfl⟩)))⟩
  | 1, _ => exact ⟨rfl, Or.inr (Or.inr (Or.inr (Or.inr ⟨_, rfl⟩)))⟩
  | 2, _ => exact ⟨rfl, Or.inr (Or.inr (Or.inr (Or.inr ⟨_, rfl⟩)))⟩
  | 3, _ => exact ⟨rfl, Or.inl rfl⟩
  | n + 4, hk => exact absurd hk (by omega)
theorem am_cl_10 : am_clP 10 (RX10, TX10, 13) := by
  refine ⟨am_lay_in am_lw_10, by decide +kernel, tyX10_ok, nmX10, (am_li_in am_li_10).1, (am_li_in am_li_10).2, ⟨rfl, fun k hk => ?_⟩, rfl⟩
  replace hk : k < 13 := hk
  match k, hk with
  | 0, _ => exact ⟨rfl, Or.inr (Or.inr (Or.inr (Or.inl ⟨_, rfl⟩)))⟩
  | 1, _ => exact ⟨rfl, Or.inr (Or.inr (Or.inr (Or.inl ⟨_, rfl⟩)))⟩
  | 2, _ => exact ⟨rfl, Or.inr (Or.inr (Or.inr (Or.inl ⟨_, rfl⟩)))⟩
  | 3, _ => exact ⟨rfl, Or.inr (Or.inr (Or.inr (Or.inl ⟨_, rfl⟩)))⟩
  | 4, _ => exact ⟨rfl, Or.inr (Or.inr (Or.inr (Or.inl ⟨_, rfl⟩)))⟩
  | 5, _ => exact ⟨rfl, Or.inr (Or.inr (Or.inr (Or.inl ⟨_, rfl⟩)))⟩
  | 6, _ => exact ⟨rfl, Or.inr (Or.inr (Or.inr (Or.inl ⟨_, rfl⟩)))⟩
  | 7, _ => exact ⟨rfl, Or.inr (Or.inr (Or.inr (Or.inl ⟨_, rfl⟩)))⟩
  | 8, _ => exact ⟨rfl, Or.inr (Or.inr (Or.inr (Or.inl ⟨_, rfl⟩)))⟩
  | 9, _ => exact ⟨rfl, Or.inr (Or.inr (Or.inr (Or.inl ⟨_, rfl⟩)))⟩
  | 10, _ => exact ⟨rfl, Or.inr (Or.inr (Or.inr (Or.inl ⟨_, rfl⟩)))⟩
  | 11, _ => exact ⟨rfl, Or.inr (Or.inr (Or.inr (Or.inl ⟨_, rfl⟩)))⟩
  | 12, _ => exact ⟨rfl, Or.inr (Or.inr (Or.inr (Or.inr ⟨_, rfl⟩)))⟩
  | n + 13, hk => exact absurd hk (by omega)
theorem am_cl_11 : am_clP 11 (RX11, TX11, 33) := by
  refine ⟨am_lay_in am_lw_11, by decide +kernel, tyX11_ok, nmX11, (am_li_in am_li_11).1, (am_li_in am_li_11).2, ⟨rfl, fun k hk => ?_⟩, rfl⟩
  replace hk : k < 33 := hk
  match k, hk with
  | 0, _ => exact ⟨rfl, Or.inl rfl⟩
  | 1, _ => exact ⟨rfl, Or.inr (Or.inr (Or.inr (Or.inr ⟨_, rfl⟩)))⟩
  | 2, _ => exact ⟨rfl, Or.inl rfl⟩
  | 3, _ => exact ⟨rfl, Or.inl rfl⟩
  | 4, _ => exact ⟨rfl, Or.inr (Or.inr (Or.inr (Or.inr ⟨_, rfl⟩)))⟩
  | 5, _ => exact ⟨rfl, Or.inr (Or.inr (Or.inr (Or.inr ⟨_, rfl⟩)))⟩
  | 6, _ => exact ⟨rfl, Or.inr (Or.inr (Or.inr (Or.inr ⟨_, rfl⟩)))⟩
  | 7, _ => exact ⟨rfl, Or.inl rfl⟩
  | 8, _ => exact ⟨rfl, Or.inl rfl⟩
  | 9, _ => exact ⟨rfl, Or.inr (Or.inr (Or.inr (Or.inr ⟨_, rfl⟩)))⟩
  | 10, _ => exact ⟨rfl, Or.inr (Or.inr (Or.inr (Or.inr ⟨_, rfl⟩)))⟩
  | 11, _ => exact ⟨rfl, Or.inr (Or.inr (Or.inr (Or.inr ⟨_, rfl⟩)))⟩
  | 12, _ => exact ⟨rfl, Or.inl rfl⟩
  | 13, _ => exact ⟨rfl, Or.inr (Or.inr (Or.inr (Or.inr ⟨_, rfl⟩)))⟩
  | 14, _ => exact ⟨rfl, Or.inr (Or.inr (Or.inr (Or.inr ⟨_, rfl⟩)))⟩
  | 15, _ => exact ⟨rfl, Or.inr (Or.inr (Or.inr (Or.inr ⟨_, rfl⟩)))⟩
  | 16, _ => exact ⟨rfl, Or.inr (Or.inr (Or.inr (Or.inr ⟨_, rfl⟩)))⟩
  | 17, _ => exact ⟨rfl, Or.inr (Or.inr (Or.inr (Or.inr ⟨_, rfl⟩)))⟩
  | 18, _ => exact ⟨rfl, Or.inl rfl⟩
  | 19, _ => exact ⟨rfl, Or.inr (Or.inr (Or.inr (Or.inr ⟨_, rfl⟩)))⟩
  | 20, _ => exact ⟨rfl, Or.inl rfl⟩
  | 21, _ => exact ⟨rfl, Or.inl rfl⟩
  | 22, _ => exact ⟨rfl, Or.inl rfl⟩
  | 23, _ => exact ⟨rfl, Or.inl rfl⟩
  | 24, _ => exact ⟨rfl, Or.inl rfl⟩
  | 25, _ => exact ⟨rfl, Or.inl rfl⟩
  | 26, _ => exact ⟨rfl, Or.inl rfl⟩
  | 27, _ => exact ⟨rfl, Or.inl rfl⟩
  | 28, _ => exact ⟨rfl, Or.inr (Or.inr (Or.inr (Or.inr ⟨_, rfl⟩)))⟩
  | 29, _ => exact ⟨rfl, Or.inr (Or.inr (Or.inr (Or.inr ⟨_, rfl⟩)))⟩
  | 30, _ => exact ⟨rfl, Or.inr (Or.inr (Or.inr (Or.inr ⟨_, rfl⟩)))⟩
  | 31, _ => exact ⟨rfl, Or.inr (Or.inr (Or.inr (Or.inr ⟨_, rfl⟩)))⟩
  | 32, _ => exact ⟨rfl, Or.inr (Or.inr (Or.inl rfl))⟩
  | n + 33, hk => exact absurd hk (by omega)
theorem am_clok {c : Nat} {q : vw_C} (h : am_cl[c]? = some q) : am_clP c q := by
  match c, h with
  | 0, h => cases h; exact am_cl_0
  | 1, h => cases h; exact am_cl_1
  | 2, h => cases h; exact am_cl_2
  | 3, h => cases h; exact am_cl_3
  | 4, h => cases h; exact am_cl_4
  | 5, h => cases h; exact am_cl_5
  | 6, h => cases h; exact am_cl_6
  | 7, h => cases h; exact am_cl_7
  | 8, h => cases h; exact am_cl_8
  | 9, h => cases h; exact am_cl_9
  | 10, h => cases h; exact am_cl_10
  | 11, h => cases h; exact am_cl_11
  | n + 12, h => simp [am_cl] at h
set_option maxRecDepth 100000 in
theorem am_acw : [some (Cond.arrayClass .int), some (Cond.arrayClass .long), some (Cond.arrayClass .char), some (Cond.arrayClass .boolean)] = [194, 193, 170, 1396].map am_tb := rfl
theorem am_ac_in {t : FieldType} (h : t = .int ∨ t = .long ∨ t = .char ∨ t = .boolean) : Cond.arrayClass t ∈ am_gw := by
  have h1 : ([Cond.arrayClass .int, Cond.arrayClass .long, Cond.arrayClass .char, Cond.arrayClass .boolean]).map some = [194, 193, 170, 1396].map am_tb := am_acw
  refine am_gw_in (am_rows (f := some) h1 ?_ rfl) rfl
  rcases h with rfl | rfl | rfl | rfl <;> simp
set_option maxRecDepth 100000 in
theorem am_oiw : [some (Cond.instanceMethod objectInit), some (Cond.code objectInit ⟨#[0xb1]⟩ 1 none)] = [128, 129].map am_tb := rfl
set_option maxRecDepth 100000 in
theorem am_cyw : [some (Cond.native arraycopyName), some (Cond.static arraycopyName), some (Cond.initialized "java/lang/System")] = [640, 639, 115].map am_tb := rfl
theorem am_oi_in : Cond.instanceMethod objectInit ∈ am_gw ∧ Cond.code objectInit ⟨#[0xb1]⟩ 1 none ∈ am_gw := by
  have h1 : ([Cond.instanceMethod objectInit, Cond.code objectInit ⟨#[0xb1]⟩ 1 none]).map some = [128, 129].map am_tb := am_oiw
  exact ⟨am_gw_in (am_rows (f := some) h1 List.mem_cons_self rfl) rfl, am_gw_in (am_rows (f := some) h1 (List.mem_cons_of_mem _ List.mem_cons_self) rfl) rfl⟩
theorem am_cy_in : Cond.native arraycopyName ∈ am_gw ∧ Cond.static arraycopyName ∈ am_gw ∧ Cond.initialized "java/lang/System" ∈ am_gw := by
  have h1 : ([Cond.native arraycopyName, Cond.static arraycopyName, Cond.initialized "java/lang/System"]).map some = [640, 639, 115].map am_tb := am_cyw
  exact ⟨am_gw_in (am_rows (f := some) h1 (by simp) rfl) rfl, am_gw_in (am_rows (f := some) h1 (by simp) rfl) rfl, am_gw_in (am_rows (f := some) h1 (by simp) rfl) rfl⟩
theorem am_plain : ∀ c, c < 15 → plainName (am_own c) = true := by decide +kernel
theorem am_noMH : ∀ c, c < 16 → am_own c ≠ "java/lang/invoke/MethodHandle" ∧ am_own c ≠ "java/lang/invoke/VarHandle" := by decide +kernel
theorem am_mathp : (am_nm.filter (fun Y => Nat.beq Y.2.2.2.2.2.2.2 15)).all (fun Y => plainFor Y.1) = true := by decide +kernel
