section AME
variable {d n : Nat} {rt : Option FieldType} {cd : Nat → Option am_I} {pc nx pc' r1 r2 r3 ps : Nat} {L L' : am_L} {st st' : List Value} {h h' : am_H} {Q : Nat → am_L → List Value → am_H → Prop} {cst : Value} {μ : am_M2} {ν : am_N2}
theorem am_e_iload_n {i : Fin 4} {x : Int32} (hE : cd pc = some (.iload_n i, nx, r1, r2, r3, ps, cst)) (hl : L[i.val]? = some (some (.int x))) (K : am_v d rt cd nx L (.int x :: st) h Q) : am_v d rt cd pc L (st) h Q := by
  exact am_v1 hE (by simp only [am_step, am_li, hl]; rfl) K
theorem am_e_aload {i : Nat} {x : Nat} (hE : cd pc = some (.aload i, nx, r1, r2, r3, ps, cst)) (hl : L[i]? = some (some (.ref x))) (K : am_v d rt cd nx L (.ref x :: st) h Q) : am_v d rt cd pc L (st) h Q := by
  exact am_v1 hE (by simp only [am_step, am_la, hl]; rfl) K
theorem am_e_idiv {x y v : Int32} (hE : cd pc = some (.idiv, nx, r1, r2, r3, ps, cst)) (hy : ¬ y = 0) (hv : x / y = v) (K : am_v d rt cd nx L (.int v :: st) h Q) : am_v d rt cd pc L (.int y :: .int x :: st) h Q := by
  subst hv; exact am_v1 hE (by simp only [am_step, if_neg hy]; rfl) K
theorem am_e_irem {x y v : Int32} (hE : cd pc = some (.irem, nx, r1, r2, r3, ps, cst)) (hy : ¬ y = 0) (hv : x - x / y * y = v) (K : am_v d rt cd nx L (.int v :: st) h Q) : am_v d rt cd pc L (.int y :: .int x :: st) h Q := by
  subst hv; exact am_v1 hE (by simp only [am_step, if_neg hy]; rfl) K
theorem am_e_last {a m k : Nat} {f : Nat → Option Nat} {j : Int32} {x : Int64} (hE : cd pc = some (.lastore, nx, r1, r2, r3, ps, cst)) (hS : am_S0 n a = some (.inl (.long, true, m, f))) (hi : am_ix j m = some k) (K : am_v d rt cd nx L st (am_hp n μ (am_upL ν a k x)) Q) : am_v d rt cd pc L (.long x :: .int j :: .ref a :: st) (am_hp n μ ν) Q := by
  refine am_v1 hE ?_ K
  simp only [am_step, am_astL, am_hp, hS, hi]
  rfl
theorem am_e_if_eqB {off : Int} {b : Bool} (hE : cd pc = some (.ifCond .eq off, nx, r1, r2, r3, ps, cst)) (kt : b = false → am_v d rt cd r1 L st h Q) (kf : b = true → am_v d rt cd nx L st h Q) : am_v d rt cd pc L (.int (sB b) :: st) h Q :=
  am_e_if_eq hE (fun z => kt (sB_0.mp z)) (fun z => kf (by cases b with
    | false => exact absurd (sB_0.mpr rfl) z
    | true => rfl))
theorem am_e_if_neB {off : Int} {b : Bool} (hE : cd pc = some (.ifCond .ne off, nx, r1, r2, r3, ps, cst)) (kt : b = true → am_v d rt cd r1 L st h Q) (kf : b = false → am_v d rt cd nx L st h Q) : am_v d rt cd pc L (.int (sB b) :: st) h Q :=
  am_e_if_ne hE (fun z => kt (by cases b with
    | false => exact absurd (sB_0.mpr rfl) z
    | true => rfl)) (fun z => kf (sB_0.mp z))
theorem am_e_ieqN {off : Int} {x y : Nat} (hE : cd pc = some (.if_icmp .eq off, nx, r1, r2, r3, ps, cst)) (hx : x < 2 ^ 31) (hy : y < 2 ^ 31) (kt : x = y → am_v d rt cd r1 L st h Q) (kf : ¬ x = y → am_v d rt cd nx L st h Q) : am_v d rt cd pc L (.int (nI y) :: .int (nI x) :: st) h Q :=
  am_e_icmp_eq hE (fun z => kt ((nI_eq hx hy).mp z)) (fun z => kf (fun e => z ((nI_eq hx hy).mpr e)))
theorem am_e_ineN {off : Int} {x y : Nat} (hE : cd pc = some (.if_icmp .ne off, nx, r1, r2, r3, ps, cst)) (hx : x < 2 ^ 31) (hy : y < 2 ^ 31) (kt : ¬ x = y → am_v d rt cd r1 L st h Q) (kf : x = y → am_v d rt cd nx L st h Q) : am_v d rt cd pc L (.int (nI y) :: .int (nI x) :: st) h Q :=
  am_e_icmp_ne hE (fun z => kt (fun e => z ((nI_eq hx hy).mpr e))) (fun z => kf ((nI_eq hx hy).mp z))
theorem am_e_iltN {off : Int} {x y : Nat} (hE : cd pc = some (.if_icmp .lt off, nx, r1, r2, r3, ps, cst)) (hx : x < 2 ^ 31) (hy : y < 2 ^ 31) (kt : x < y → am_v d rt cd r1 L st h Q) (kf : y ≤ x → am_v d rt cd nx L st h Q) : am_v d rt cd pc L (.int (nI y) :: .int (nI x) :: st) h Q :=
  am_e_icmp_lt hE (fun z => kt ((nI_ltI hx hy).mp z)) (fun z => kf (Nat.not_lt.mp fun e => z ((nI_ltI hx hy).mpr e)))
theorem am_e_igeN {off : Int} {x y : Nat} (hE : cd pc = some (.if_icmp .ge off, nx, r1, r2, r3, ps, cst)) (hx : x < 2 ^ 31) (hy : y < 2 ^ 31) (kt : y ≤ x → am_v d rt cd r1 L st h Q) (kf : x < y → am_v d rt cd nx L st h Q) : am_v d rt cd pc L (.int (nI y) :: .int (nI x) :: st) h Q :=
  am_e_icmp_ge hE (fun z => kt ((nI_leI hy hx).mp z)) (fun z => kf (Nat.not_le.mp fun e => z ((nI_leI hy hx).mpr e)))
theorem am_e_igtN {off : Int} {x y : Nat} (hE : cd pc = some (.if_icmp .gt off, nx, r1, r2, r3, ps, cst)) (hx : x < 2 ^ 31) (hy : y < 2 ^ 31) (kt : y < x → am_v d rt cd r1 L st h Q) (kf : x ≤ y → am_v d rt cd nx L st h Q) : am_v d rt cd pc L (.int (nI y) :: .int (nI x) :: st) h Q :=
  am_e_icmp_gt hE (fun z => kt ((nI_ltI hy hx).mp z)) (fun z => kf (Nat.not_lt.mp fun e => z ((nI_ltI hy hx).mpr e)))
theorem am_e_ileN {off : Int} {x y : Nat} (hE : cd pc = some (.if_icmp .le off, nx, r1, r2, r3, ps, cst)) (hx : x < 2 ^ 31) (hy : y < 2 ^ 31) (kt : x ≤ y → am_v d rt cd r1 L st h Q) (kf : y < x → am_v d rt cd nx L st h Q) : am_v d rt cd pc L (.int (nI y) :: .int (nI x) :: st) h Q :=
  am_e_icmp_le hE (fun z => kt ((nI_leI hx hy).mp z)) (fun z => kf (Nat.not_le.mp fun e => z ((nI_leI hx hy).mpr e)))
end AME