/-- StoneSecrets.<init>()V -/
theorem am_r0 {d : Nat} {vs : List Value} {h : am_H} {r : am_R} (hl : (am_en vs).length ≤ 1) (L : am_L) (hL : am_en0 vs 1 = L) (hw : am_w d (Option.none : Option FieldType) am_g0 0 L [] h (fun x => x = r)) : am_run (d + 1) 0 vs h = some r := am_run_w (k := 0) rfl rfl hl L hL hw
/-- StoneSecrets$Tape.<init>()V -/
theorem am_r1 {d : Nat} {vs : List Value} {h : am_H} {r : am_R} (hl : (am_en vs).length ≤ 1) (L : am_L) (hL : am_en0 vs 1 = L) (hw : am_w d (Option.none : Option FieldType) am_g1 0 L [] h (fun x => x = r)) : am_run (d + 1) 1 vs h = some r := am_run_w (k := 1) rfl rfl hl L hL hw
/-- StoneSecrets$Valley.<init>()V -/
theorem am_r2 {d : Nat} {vs : List Value} {h : am_H} {r : am_R} (hl : (am_en vs).length ≤ 1) (L : am_L) (hL : am_en0 vs 1 = L) (hw : am_w d (Option.none : Option FieldType) am_g2 0 L [] h (fun x => x = r)) : am_run (d + 1) 2 vs h = some r := am_run_w (k := 2) rfl rfl hl L hL hw
/-- StoneSecrets$Law.<init>()V -/
theorem am_r3 {d : Nat} {vs : List Value} {h : am_H} {r : am_R} (hl : (am_en vs).length ≤ 1) (L : am_L) (hL : am_en0 vs 1 = L) (hw : am_w d (Option.none : Option FieldType) am_g3 0 L [] h (fun x => x = r)) : am_run (d + 1) 3 vs h = some r := am_run_w (k := 3) rfl rfl hl L hL hw
/-- StoneSecrets$Year.<init>()V -/
theorem am_r4 {d : Nat} {vs : List Value} {h : am_H} {r : am_R} (hl : (am_en vs).length ≤ 1) (L : am_L) (hL : am_en0 vs 1 = L) (hw : am_w d (Option.none : Option FieldType) am_g4 0 L [] h (fun x => x = r)) : am_run (d + 1) 4 vs h = some r := am_run_w (k := 4) rfl rfl hl L hL hw
/-- StoneSecrets$Wall.<init>(LStoneSecrets$Valley;)V -/
theorem am_r5 {d : Nat} {vs : List Value} {h : am_H} {r : am_R} (hl : (am_en vs).length ≤ 2) (L : am_L) (hL : am_en0 vs 2 = L) (hw : am_w d (Option.none : Option FieldType) am_g5 0 L [] h (fun x => x = r)) : am_run (d + 1) 5 vs h = some r := am_run_w (k := 5) rfl rfl hl L hL hw
/-- StoneSecrets$Past.<init>(LStoneSecrets$Valley;)V -/
theorem am_r6 {d : Nat} {vs : List Value} {h : am_H} {r : am_R} (hl : (am_en vs).length ≤ 3) (L : am_L) (hL : am_en0 vs 3 = L) (hw : am_w d (Option.none : Option FieldType) am_g6 0 L [] h (fun x => x = r)) : am_run (d + 1) 6 vs h = some r := am_run_w (k := 6) rfl rfl hl L hL hw
/-- StoneSecrets$Seen.<init>()V -/
theorem am_r7 {d : Nat} {vs : List Value} {h : am_H} {r : am_R} (hl : (am_en vs).length ≤ 1) (L : am_L) (hL : am_en0 vs 1 = L) (hw : am_w d (Option.none : Option FieldType) am_g7 0 L [] h (fun x => x = r)) : am_run (d + 1) 7 vs h = some r := am_run_w (k := 7) rfl rfl hl L hL hw
/-- StoneSecrets$Ways.<init>(LStoneSecrets$Valley;)V -/
theorem am_r8 {d : Nat} {vs : List Value} {h : am_H} {r : am_R} (hl : (am_en vs).length ≤ 2) (L : am_L) (hL : am_en0 vs 2 = L) (hw : am_w d (Option.none : Option FieldType) am_g8 0 L [] h (fun x => x = r)) : am_run (d + 1) 8 vs h = some r := am_run_w (k := 8) rfl rfl hl L hL hw
/-- StoneSecrets$Future.<init>(LStoneSecrets$Valley;)V -/
theorem am_r9 {d : Nat} {vs : List Value} {h : am_H} {r : am_R} (hl : (am_en vs).length ≤ 2) (L : am_L) (hL : am_en0 vs 2 = L) (hw : am_w d (Option.none : Option FieldType) am_g9 0 L [] h (fun x => x = r)) : am_run (d + 1) 9 vs h = some r := am_run_w (k := 9) rfl rfl hl L hL hw
/-- StoneSecrets$Feuds.<init>(LStoneSecrets$Valley;)V -/
theorem am_r10 {d : Nat} {vs : List Value} {h : am_H} {r : am_R} (hl : (am_en vs).length ≤ 2) (L : am_L) (hL : am_en0 vs 2 = L) (hw : am_w d (Option.none : Option FieldType) am_g10 0 L [] h (fun x => x = r)) : am_run (d + 1) 10 vs h = some r := am_run_w (k := 10) rfl rfl hl L hL hw
/-- StoneSecrets.feed(JJJ)I -/
theorem am_r11 {d : Nat} {vs : List Value} {h : am_H} {r : am_R} (hl : (am_en vs).length ≤ 7) (L : am_L) (hL : am_en0 vs 7 = L) (hw : am_w d (Option.some FieldType.int) am_g11 0 L [] h (fun x => x = r)) : am_run (d + 1) 11 vs h = some r := am_run_w (k := 11) rfl rfl hl L hL hw
/-- StoneSecrets$Tape.addBytes(J)V -/
theorem am_r12 {d : Nat} {vs : List Value} {h : am_H} {r : am_R} (hl : (am_en vs).length ≤ 6) (L : am_L) (hL : am_en0 vs 6 = L) (hw : am_w d (Option.none : Option FieldType) am_g12 0 L [] h (fun x => x = r)) : am_run (d + 1) 12 vs h = some r := am_run_w (k := 12) rfl rfl hl L hL hw
/-- StoneSecrets.valley()I -/
theorem am_r13 {d : Nat} {vs : List Value} {h : am_H} {r : am_R} (hl : (am_en vs).length ≤ 2) (L : am_L) (hL : am_en0 vs 2 = L) (hw : am_w d (Option.some FieldType.int) am_g13 0 L [] h (fun x => x = r)) : am_run (d + 1) 13 vs h = some r := am_run_w (k := 13) rfl rfl hl L hL hw
/-- StoneSecrets$Tape.open()V -/
theorem am_r14 {d : Nat} {vs : List Value} {h : am_H} {r : am_R} (hl : (am_en vs).length ≤ 1) (L : am_L) (hL : am_en0 vs 1 = L) (hw : am_w d (Option.none : Option FieldType) am_g14 0 L [] h (fun x => x = r)) : am_run (d + 1) 14 vs h = some r := am_run_w (k := 14) rfl rfl hl L hL hw
/-- StoneSecrets$Tape.step()V -/
theorem am_r15 {d : Nat} {vs : List Value} {h : am_H} {r : am_R} (hl : (am_en vs).length ≤ 1) (L : am_L) (hL : am_en0 vs 1 = L) (hw : am_w d (Option.none : Option FieldType) am_g15 0 L [] h (fun x => x = r)) : am_run (d + 1) 15 vs h = some r := am_run_w (k := 15) rfl rfl hl L hL hw
/-- StoneSecrets$Tape.isBlank(C)Z -/
theorem am_r16 {d : Nat} {vs : List Value} {h : am_H} {r : am_R} (hl : (am_en vs).length ≤ 1) (L : am_L) (hL : am_en0 vs 1 = L) (hw : am_w d (Option.some FieldType.boolean) am_g16 0 L [] h (fun x => x = r)) : am_run (d + 1) 16 vs h = some r := am_run_w (k := 16) rfl rfl hl L hL hw
/-- StoneSecrets$Tape.isLetter(C)Z -/
theorem am_r17 {d : Nat} {vs : List Value} {h : am_H} {r : am_R} (hl : (am_en vs).length ≤ 1) (L : am_L) (hL : am_en0 vs 1 = L) (hw : am_w d (Option.some FieldType.boolean) am_g17 0 L [] h (fun x => x = r)) : am_run (d + 1) 17 vs h = some r := am_run_w (k := 17) rfl rfl hl L hL hw
/-- StoneSecrets$Tape.stepWord()V -/
theorem am_r18 {d : Nat} {vs : List Value} {h : am_H} {r : am_R} (hl : (am_en vs).length ≤ 1) (L : am_L) (hL : am_en0 vs 1 = L) (hw : am_w d (Option.none : Option FieldType) am_g18 0 L [] h (fun x => x = r)) : am_run (d + 1) 18 vs h = some r := am_run_w (k := 18) rfl rfl hl L hL hw
/-- StoneSecrets$Tape.wordToken()I -/
theorem am_r19 {d : Nat} {vs : List Value} {h : am_H} {r : am_R} (hl : (am_en vs).length ≤ 2) (L : am_L) (hL : am_en0 vs 2 = L) (hw : am_w d (Option.some FieldType.int) am_g19 0 L [] h (fun x => x = r)) : am_run (d + 1) 19 vs h = some r := am_run_w (k := 19) rfl rfl hl L hL hw
/-- StoneSecrets$Tape.isNumeral(C)Z -/
theorem am_r20 {d : Nat} {vs : List Value} {h : am_H} {r : am_R} (hl : (am_en vs).length ≤ 1) (L : am_L) (hL : am_en0 vs 1 = L) (hw : am_w d (Option.some FieldType.boolean) am_g20 0 L [] h (fun x => x = r)) : am_run (d + 1) 20 vs h = some r := am_run_w (k := 20) rfl rfl hl L hL hw
/-- StoneSecrets$Tape.stepNumber()V -/
theorem am_r21 {d : Nat} {vs : List Value} {h : am_H} {r : am_R} (hl : (am_en vs).length ≤ 1) (L : am_L) (hL : am_en0 vs 1 = L) (hw : am_w d (Option.none : Option FieldType) am_g21 0 L [] h (fun x => x = r)) : am_run (d + 1) 21 vs h = some r := am_run_w (k := 21) rfl rfl hl L hL hw
/-- StoneSecrets$Tape.isSign(C)Z -/
theorem am_r22 {d : Nat} {vs : List Value} {h : am_H} {r : am_R} (hl : (am_en vs).length ≤ 1) (L : am_L) (hL : am_en0 vs 1 = L) (hw : am_w d (Option.some FieldType.boolean) am_g22 0 L [] h (fun x => x = r)) : am_run (d + 1) 22 vs h = some r := am_run_w (k := 22) rfl rfl hl L hL hw
/-- StoneSecrets$Valley.read(LStoneSecrets$Tape;)Z -/
theorem am_r23 {d : Nat} {vs : List Value} {h : am_H} {r : am_R} (hl : (am_en vs).length ≤ 4) (L : am_L) (hL : am_en0 vs 4 = L) (hw : am_w d (Option.some FieldType.boolean) am_g23 0 L [] h (fun x => x = r)) : am_run (d + 1) 23 vs h = some r := am_run_w (k := 23) rfl rfl hl L hL hw
/-- StoneSecrets$Valley.beginReading()V -/
theorem am_r24 {d : Nat} {vs : List Value} {h : am_H} {r : am_R} (hl : (am_en vs).length ≤ 1) (L : am_L) (hL : am_en0 vs 1 = L) (hw : am_w d (Option.none : Option FieldType) am_g24 0 L [] h (fun x => x = r)) : am_run (d + 1) 24 vs h = some r := am_run_w (k := 24) rfl rfl hl L hL hw
/-- java/util/Arrays.fill([II)V -/
theorem am_r25 {d : Nat} {vs : List Value} {h : am_H} {r : am_R} (hl : (am_en vs).length ≤ 4) (L : am_L) (hL : am_en0 vs 4 = L) (hw : am_w d (Option.none : Option FieldType) am_g25 0 L [] h (fun x => x = r)) : am_run (d + 1) 25 vs h = some r := am_run_w (k := 25) rfl rfl hl L hL hw
/-- StoneSecrets$Law.beUsual()V -/
theorem am_r26 {d : Nat} {vs : List Value} {h : am_H} {r : am_R} (hl : (am_en vs).length ≤ 1) (L : am_L) (hL : am_en0 vs 1 = L) (hw : am_w d (Option.none : Option FieldType) am_g26 0 L [] h (fun x => x = r)) : am_run (d + 1) 26 vs h = some r := am_run_w (k := 26) rfl rfl hl L hL hw
/-- StoneSecrets$Law.beNothing()V -/
theorem am_r27 {d : Nat} {vs : List Value} {h : am_H} {r : am_R} (hl : (am_en vs).length ≤ 1) (L : am_L) (hL : am_en0 vs 1 = L) (hw : am_w d (Option.none : Option FieldType) am_g27 0 L [] h (fun x => x = r)) : am_run (d + 1) 27 vs h = some r := am_run_w (k := 27) rfl rfl hl L hL hw
/-- StoneSecrets$Law.put(I)V -/
theorem am_r28 {d : Nat} {vs : List Value} {h : am_H} {r : am_R} (hl : (am_en vs).length ≤ 2) (L : am_L) (hL : am_en0 vs 2 = L) (hw : am_w d (Option.none : Option FieldType) am_g28 0 L [] h (fun x => x = r)) : am_run (d + 1) 28 vs h = some r := am_run_w (k := 28) rfl rfl hl L hL hw
/-- StoneSecrets$Valley.readLine(LStoneSecrets$Tape;)Z -/
theorem am_r29 {d : Nat} {vs : List Value} {h : am_H} {r : am_R} (hl : (am_en vs).length ≤ 2) (L : am_L) (hL : am_en0 vs 2 = L) (hw : am_w d (Option.some FieldType.boolean) am_g29 0 L [] h (fun x => x = r)) : am_run (d + 1) 29 vs h = some r := am_run_w (k := 29) rfl rfl hl L hL hw
/-- StoneSecrets$Valley.readWall(LStoneSecrets$Tape;)Z -/
theorem am_r30 {d : Nat} {vs : List Value} {h : am_H} {r : am_R} (hl : (am_en vs).length ≤ 2) (L : am_L) (hL : am_en0 vs 2 = L) (hw : am_w d (Option.some FieldType.boolean) am_g30 0 L [] h (fun x => x = r)) : am_run (d + 1) 30 vs h = some r := am_run_w (k := 30) rfl rfl hl L hL hw
/-- StoneSecrets$Tape.wrong(I)Z -/
theorem am_r31 {d : Nat} {vs : List Value} {h : am_H} {r : am_R} (hl : (am_en vs).length ≤ 2) (L : am_L) (hL : am_en0 vs 2 = L) (hw : am_w d (Option.some FieldType.boolean) am_g31 0 L [] h (fun x => x = r)) : am_run (d + 1) 31 vs h = some r := am_run_w (k := 31) rfl rfl hl L hL hw
/-- StoneSecrets$Tape.passNumber(II)I -/
theorem am_r32 {d : Nat} {vs : List Value} {h : am_H} {r : am_R} (hl : (am_en vs).length ≤ 4) (L : am_L) (hL : am_en0 vs 4 = L) (hw : am_w d (Option.some FieldType.int) am_g32 0 L [] h (fun x => x = r)) : am_run (d + 1) 32 vs h = some r := am_run_w (k := 32) rfl rfl hl L hL hw
/-- StoneSecrets$Tape.isNumberWithin(II)Z -/
theorem am_r33 {d : Nat} {vs : List Value} {h : am_H} {r : am_R} (hl : (am_en vs).length ≤ 3) (L : am_L) (hL : am_en0 vs 3 = L) (hw : am_w d (Option.some FieldType.boolean) am_g33 0 L [] h (fun x => x = r)) : am_run (d + 1) 33 vs h = some r := am_run_w (k := 33) rfl rfl hl L hL hw
/-- StoneSecrets$Valley.readSoul(LStoneSecrets$Tape;)Z -/
theorem am_r34 {d : Nat} {vs : List Value} {h : am_H} {r : am_R} (hl : (am_en vs).length ≤ 3) (L : am_L) (hL : am_en0 vs 3 = L) (hw : am_w d (Option.some FieldType.boolean) am_g34 0 L [] h (fun x => x = r)) : am_run (d + 1) 34 vs h = some r := am_run_w (k := 34) rfl rfl hl L hL hw
/-- StoneSecrets$Valley.readNewName(LStoneSecrets$Tape;I)Z -/
theorem am_r35 {d : Nat} {vs : List Value} {h : am_H} {r : am_R} (hl : (am_en vs).length ≤ 3) (L : am_L) (hL : am_en0 vs 3 = L) (hw : am_w d (Option.some FieldType.boolean) am_g35 0 L [] h (fun x => x = r)) : am_run (d + 1) 35 vs h = some r := am_run_w (k := 35) rfl rfl hl L hL hw
/-- StoneSecrets$Valley.soulNamed(J)I -/
theorem am_r36 {d : Nat} {vs : List Value} {h : am_H} {r : am_R} (hl : (am_en vs).length ≤ 4) (L : am_L) (hL : am_en0 vs 4 = L) (hw : am_w d (Option.some FieldType.int) am_g36 0 L [] h (fun x => x = r)) : am_run (d + 1) 36 vs h = some r := am_run_w (k := 36) rfl rfl hl L hL hw
/-- StoneSecrets$Valley.readKind(LStoneSecrets$Tape;I)Z -/
theorem am_r37 {d : Nat} {vs : List Value} {h : am_H} {r : am_R} (hl : (am_en vs).length ≤ 3) (L : am_L) (hL : am_en0 vs 3 = L) (hw : am_w d (Option.some FieldType.boolean) am_g37 0 L [] h (fun x => x = r)) : am_run (d + 1) 37 vs h = some r := am_run_w (k := 37) rfl rfl hl L hL hw
/-- StoneSecrets$Tape.pass(I)Z -/
theorem am_r38 {d : Nat} {vs : List Value} {h : am_H} {r : am_R} (hl : (am_en vs).length ≤ 2) (L : am_L) (hL : am_en0 vs 2 = L) (hw : am_w d (Option.some FieldType.boolean) am_g38 0 L [] h (fun x => x = r)) : am_run (d + 1) 38 vs h = some r := am_run_w (k := 38) rfl rfl hl L hL hw
/-- StoneSecrets$Valley.weightOf(II)I -/
theorem am_r39 {d : Nat} {vs : List Value} {h : am_H} {r : am_R} (hl : (am_en vs).length ≤ 2) (L : am_L) (hL : am_en0 vs 2 = L) (hw : am_w d (Option.some FieldType.int) am_g39 0 L [] h (fun x => x = r)) : am_run (d + 1) 39 vs h = some r := am_run_w (k := 39) rfl rfl hl L hL hw
/-- StoneSecrets$Valley.readHurts(LStoneSecrets$Tape;)Z -/
theorem am_r40 {d : Nat} {vs : List Value} {h : am_H} {r : am_R} (hl : (am_en vs).length ≤ 4) (L : am_L) (hL : am_en0 vs 4 = L) (hw : am_w d (Option.some FieldType.boolean) am_g40 0 L [] h (fun x => x = r)) : am_run (d + 1) 40 vs h = some r := am_run_w (k := 40) rfl rfl hl L hL hw
/-- StoneSecrets$Valley.passSoul(LStoneSecrets$Tape;)I -/
theorem am_r41 {d : Nat} {vs : List Value} {h : am_H} {r : am_R} (hl : (am_en vs).length ≤ 3) (L : am_L) (hL : am_en0 vs 3 = L) (hw : am_w d (Option.some FieldType.int) am_g41 0 L [] h (fun x => x = r)) : am_run (d + 1) 41 vs h = some r := am_run_w (k := 41) rfl rfl hl L hL hw
/-- StoneSecrets$Valley.soulAt(LStoneSecrets$Tape;)I -/
theorem am_r42 {d : Nat} {vs : List Value} {h : am_H} {r : am_R} (hl : (am_en vs).length ≤ 3) (L : am_L) (hL : am_en0 vs 3 = L) (hw : am_w d (Option.some FieldType.int) am_g42 0 L [] h (fun x => x = r)) : am_run (d + 1) 42 vs h = some r := am_run_w (k := 42) rfl rfl hl L hL hw
/-- StoneSecrets.has(II)Z -/
theorem am_r43 {d : Nat} {vs : List Value} {h : am_H} {r : am_R} (hl : (am_en vs).length ≤ 2) (L : am_L) (hL : am_en0 vs 2 = L) (hw : am_w d (Option.some FieldType.boolean) am_g43 0 L [] h (fun x => x = r)) : am_run (d + 1) 43 vs h = some r := am_run_w (k := 43) rfl rfl hl L hL hw
/-- StoneSecrets$Valley.readFrost(LStoneSecrets$Tape;)Z -/
theorem am_r44 {d : Nat} {vs : List Value} {h : am_H} {r : am_R} (hl : (am_en vs).length ≤ 4) (L : am_L) (hL : am_en0 vs 4 = L) (hw : am_w d (Option.some FieldType.boolean) am_g44 0 L [] h (fun x => x = r)) : am_run (d + 1) 44 vs h = some r := am_run_w (k := 44) rfl rfl hl L hL hw
/-- StoneSecrets$Valley.readCold(LStoneSecrets$Tape;)Z -/
theorem am_r45 {d : Nat} {vs : List Value} {h : am_H} {r : am_R} (hl : (am_en vs).length ≤ 2) (L : am_L) (hL : am_en0 vs 2 = L) (hw : am_w d (Option.some FieldType.boolean) am_g45 0 L [] h (fun x => x = r)) : am_run (d + 1) 45 vs h = some r := am_run_w (k := 45) rfl rfl hl L hL hw
/-- StoneSecrets$Valley.beginLaw(LStoneSecrets$Tape;)Z -/
theorem am_r46 {d : Nat} {vs : List Value} {h : am_H} {r : am_R} (hl : (am_en vs).length ≤ 2) (L : am_L) (hL : am_en0 vs 2 = L) (hw : am_w d (Option.some FieldType.boolean) am_g46 0 L [] h (fun x => x = r)) : am_run (d + 1) 46 vs h = some r := am_run_w (k := 46) rfl rfl hl L hL hw
/-- StoneSecrets$Law.readLevel(LStoneSecrets$Tape;II)Z -/
theorem am_r47 {d : Nat} {vs : List Value} {h : am_H} {r : am_R} (hl : (am_en vs).length ≤ 8) (L : am_L) (hL : am_en0 vs 8 = L) (hw : am_w d (Option.some FieldType.boolean) am_g47 0 L [] h (fun x => x = r)) : am_run (d + 1) 47 vs h = some r := am_run_w (k := 47) rfl rfl hl L hL hw
/-- StoneSecrets$Law.readPart(LStoneSecrets$Tape;I)Z -/
theorem am_r48 {d : Nat} {vs : List Value} {h : am_H} {r : am_R} (hl : (am_en vs).length ≤ 6) (L : am_L) (hL : am_en0 vs 6 = L) (hw : am_w d (Option.some FieldType.boolean) am_g48 0 L [] h (fun x => x = r)) : am_run (d + 1) 48 vs h = some r := am_run_w (k := 48) rfl rfl hl L hL hw
/-- StoneSecrets$Law.leafOf(LStoneSecrets$Tape;)I -/
theorem am_r49 {d : Nat} {vs : List Value} {h : am_H} {r : am_R} (hl : (am_en vs).length ≤ 1) (L : am_L) (hL : am_en0 vs 1 = L) (hw : am_w d (Option.some FieldType.int) am_g49 0 L [] h (fun x => x = r)) : am_run (d + 1) 49 vs h = some r := am_run_w (k := 49) rfl rfl hl L hL hw
/-- StoneSecrets$Law.levelOf(I)I -/
theorem am_r50 {d : Nat} {vs : List Value} {h : am_H} {r : am_R} (hl : (am_en vs).length ≤ 1) (L : am_L) (hL : am_en0 vs 1 = L) (hw : am_w d (Option.some FieldType.int) am_g50 0 L [] h (fun x => x = r)) : am_run (d + 1) 50 vs h = some r := am_run_w (k := 50) rfl rfl hl L hL hw
/-- StoneSecrets$Law.jointOf(I)I -/
theorem am_r51 {d : Nat} {vs : List Value} {h : am_H} {r : am_R} (hl : (am_en vs).length ≤ 1) (L : am_L) (hL : am_en0 vs 1 = L) (hw : am_w d (Option.some FieldType.int) am_g51 0 L [] h (fun x => x = r)) : am_run (d + 1) 51 vs h = some r := am_run_w (k := 51) rfl rfl hl L hL hw
/-- StoneSecrets$Valley.addLordsGrudges()V -/
theorem am_r52 {d : Nat} {vs : List Value} {h : am_H} {r : am_R} (hl : (am_en vs).length ≤ 3) (L : am_L) (hL : am_en0 vs 3 = L) (hw : am_w d (Option.none : Option FieldType) am_g52 0 L [] h (fun x => x = r)) : am_run (d + 1) 52 vs h = some r := am_run_w (k := 52) rfl rfl hl L hL hw
/-- StoneSecrets$Tape.empty()V -/
theorem am_r53 {d : Nat} {vs : List Value} {h : am_H} {r : am_R} (hl : (am_en vs).length ≤ 1) (L : am_L) (hL : am_en0 vs 1 = L) (hw : am_w d (Option.none : Option FieldType) am_g53 0 L [] h (fun x => x = r)) : am_run (d + 1) 53 vs h = some r := am_run_w (k := 53) rfl rfl hl L hL hw
/-- StoneSecrets$Valley.copyFrom(LStoneSecrets$Valley;)V -/
theorem am_r54 {d : Nat} {vs : List Value} {h : am_H} {r : am_R} (hl : (am_en vs).length ≤ 2) (L : am_L) (hL : am_en0 vs 2 = L) (hw : am_w d (Option.none : Option FieldType) am_g54 0 L [] h (fun x => x = r)) : am_run (d + 1) 54 vs h = some r := am_run_w (k := 54) rfl rfl hl L hL hw
/-- StoneSecrets$Law.copyFrom(LStoneSecrets$Law;)V -/
theorem am_r55 {d : Nat} {vs : List Value} {h : am_H} {r : am_R} (hl : (am_en vs).length ≤ 2) (L : am_L) (hL : am_en0 vs 2 = L) (hw : am_w d (Option.none : Option FieldType) am_g55 0 L [] h (fun x => x = r)) : am_run (d + 1) 55 vs h = some r := am_run_w (k := 55) rfl rfl hl L hL hw
/-- StoneSecrets$Wall.begin()V -/
theorem am_r56 {d : Nat} {vs : List Value} {h : am_H} {r : am_R} (hl : (am_en vs).length ≤ 1) (L : am_L) (hL : am_en0 vs 1 = L) (hw : am_w d (Option.none : Option FieldType) am_g56 0 L [] h (fun x => x = r)) : am_run (d + 1) 56 vs h = some r := am_run_w (k := 56) rfl rfl hl L hL hw
/-- StoneSecrets$Past.forgetAll()V -/
theorem am_r57 {d : Nat} {vs : List Value} {h : am_H} {r : am_R} (hl : (am_en vs).length ≤ 1) (L : am_L) (hL : am_en0 vs 1 = L) (hw : am_w d (Option.none : Option FieldType) am_g57 0 L [] h (fun x => x = r)) : am_run (d + 1) 57 vs h = some r := am_run_w (k := 57) rfl rfl hl L hL hw
/-- StoneSecrets.year()I -/
theorem am_r58 {d : Nat} {vs : List Value} {h : am_H} {r : am_R} (hl : (am_en vs).length ≤ 2) (L : am_L) (hL : am_en0 vs 2 = L) (hw : am_w d (Option.some FieldType.int) am_g58 0 L [] h (fun x => x = r)) : am_run (d + 1) 58 vs h = some r := am_run_w (k := 58) rfl rfl hl L hL hw
/-- StoneSecrets$Year.read(LStoneSecrets$Tape;LStoneSecrets$Valley;)Z -/
theorem am_r59 {d : Nat} {vs : List Value} {h : am_H} {r : am_R} (hl : (am_en vs).length ≤ 5) (L : am_L) (hL : am_en0 vs 5 = L) (hw : am_w d (Option.some FieldType.boolean) am_g59 0 L [] h (fun x => x = r)) : am_run (d + 1) 59 vs h = some r := am_run_w (k := 59) rfl rfl hl L hL hw
/-- StoneSecrets$Year.readLine(LStoneSecrets$Tape;LStoneSecrets$Valley;)Z -/
theorem am_r60 {d : Nat} {vs : List Value} {h : am_H} {r : am_R} (hl : (am_en vs).length ≤ 5) (L : am_L) (hL : am_en0 vs 5 = L) (hw : am_w d (Option.some FieldType.boolean) am_g60 0 L [] h (fun x => x = r)) : am_run (d + 1) 60 vs h = some r := am_run_w (k := 60) rfl rfl hl L hL hw
/-- StoneSecrets$Year.deedAt(I)I -/
theorem am_r61 {d : Nat} {vs : List Value} {h : am_H} {r : am_R} (hl : (am_en vs).length ≤ 1) (L : am_L) (hL : am_en0 vs 1 = L) (hw : am_w d (Option.some FieldType.int) am_g61 0 L [] h (fun x => x = r)) : am_run (d + 1) 61 vs h = some r := am_run_w (k := 61) rfl rfl hl L hL hw
/-- StoneSecrets$Year.copyFrom(LStoneSecrets$Year;)V -/
theorem am_r62 {d : Nat} {vs : List Value} {h : am_H} {r : am_R} (hl : (am_en vs).length ≤ 2) (L : am_L) (hL : am_en0 vs 2 = L) (hw : am_w d (Option.none : Option FieldType) am_g62 0 L [] h (fun x => x = r)) : am_run (d + 1) 62 vs h = some r := am_run_w (k := 62) rfl rfl hl L hL hw
/-- StoneSecrets.soul(II)I -/
theorem am_r63 {d : Nat} {vs : List Value} {h : am_H} {r : am_R} (hl : (am_en vs).length ≤ 3) (L : am_L) (hL : am_en0 vs 3 = L) (hw : am_w d (Option.some FieldType.int) am_g63 0 L [] h (fun x => x = r)) : am_run (d + 1) 63 vs h = some r := am_run_w (k := 63) rfl rfl hl L hL hw
/-- StoneSecrets$Valley.hasSoul(I)Z -/
theorem am_r64 {d : Nat} {vs : List Value} {h : am_H} {r : am_R} (hl : (am_en vs).length ≤ 2) (L : am_L) (hL : am_en0 vs 2 = L) (hw : am_w d (Option.some FieldType.boolean) am_g64 0 L [] h (fun x => x = r)) : am_run (d + 1) 64 vs h = some r := am_run_w (k := 64) rfl rfl hl L hL hw
/-- StoneSecrets.placeOf(I)I -/
theorem am_r65 {d : Nat} {vs : List Value} {h : am_H} {r : am_R} (hl : (am_en vs).length ≤ 1) (L : am_L) (hL : am_en0 vs 1 = L) (hw : am_w d (Option.some FieldType.int) am_g65 0 L [] h (fun x => x = r)) : am_run (d + 1) 65 vs h = some r := am_run_w (k := 65) rfl rfl hl L hL hw
/-- java/lang/Integer.bitCount(I)I -/
theorem am_r66 {d : Nat} {vs : List Value} {h : am_H} {r : am_R} (hl : (am_en vs).length ≤ 1) (L : am_L) (hL : am_en0 vs 1 = L) (hw : am_w d (Option.some FieldType.int) am_g66 0 L [] h (fun x => x = r)) : am_run (d + 1) 66 vs h = some r := am_run_w (k := 66) rfl rfl hl L hL hw
/-- StoneSecrets.stands(I)I -/
theorem am_r67 {d : Nat} {vs : List Value} {h : am_H} {r : am_R} (hl : (am_en vs).length ≤ 2) (L : am_L) (hL : am_en0 vs 2 = L) (hw : am_w d (Option.some FieldType.int) am_g67 0 L [] h (fun x => x = r)) : am_run (d + 1) 67 vs h = some r := am_run_w (k := 67) rfl rfl hl L hL hw
/-- StoneSecrets$Valley.hasPlace(I)Z -/
theorem am_r68 {d : Nat} {vs : List Value} {h : am_H} {r : am_R} (hl : (am_en vs).length ≤ 2) (L : am_L) (hL : am_en0 vs 2 = L) (hw : am_w d (Option.some FieldType.boolean) am_g68 0 L [] h (fun x => x = r)) : am_run (d + 1) 68 vs h = some r := am_run_w (k := 68) rfl rfl hl L hL hw
/-- StoneSecrets$Wall.standing(I)I -/
theorem am_r69 {d : Nat} {vs : List Value} {h : am_H} {r : am_R} (hl : (am_en vs).length ≤ 3) (L : am_L) (hL : am_en0 vs 3 = L) (hw : am_w d (Option.some FieldType.int) am_g69 0 L [] h (fun x => x = r)) : am_run (d + 1) 69 vs h = some r := am_run_w (k := 69) rfl rfl hl L hL hw
/-- StoneSecrets.tell(I)Z -/
theorem am_r70 {d : Nat} {vs : List Value} {h : am_H} {r : am_R} (hl : (am_en vs).length ≤ 2) (L : am_L) (hL : am_en0 vs 2 = L) (hw : am_w d (Option.some FieldType.boolean) am_g70 0 L [] h (fun x => x = r)) : am_run (d + 1) 70 vs h = some r := am_run_w (k := 70) rfl rfl hl L hL hw
/-- StoneSecrets.act(III)Z -/
theorem am_r71 {d : Nat} {vs : List Value} {h : am_H} {r : am_R} (hl : (am_en vs).length ≤ 4) (L : am_L) (hL : am_en0 vs 4 = L) (hw : am_w d (Option.some FieldType.boolean) am_g71 0 L [] h (fun x => x = r)) : am_run (d + 1) 71 vs h = some r := am_run_w (k := 71) rfl rfl hl L hL hw
/-- StoneSecrets$Wall.allows(III)Z -/
theorem am_r72 {d : Nat} {vs : List Value} {h : am_H} {r : am_R} (hl : (am_en vs).length ≤ 4) (L : am_L) (hL : am_en0 vs 4 = L) (hw : am_w d (Option.some FieldType.boolean) am_g72 0 L [] h (fun x => x = r)) : am_run (d + 1) 72 vs h = some r := am_run_w (k := 72) rfl rfl hl L hL hw
/-- StoneSecrets$Wall.is(II)Z -/
theorem am_r73 {d : Nat} {vs : List Value} {h : am_H} {r : am_R} (hl : (am_en vs).length ≤ 3) (L : am_L) (hL : am_en0 vs 3 = L) (hw : am_w d (Option.some FieldType.boolean) am_g73 0 L [] h (fun x => x = r)) : am_run (d + 1) 73 vs h = some r := am_run_w (k := 73) rfl rfl hl L hL hw
/-- StoneSecrets$Wall.isLoose(I)Z -/
theorem am_r74 {d : Nat} {vs : List Value} {h : am_H} {r : am_R} (hl : (am_en vs).length ≤ 2) (L : am_L) (hL : am_en0 vs 2 = L) (hw : am_w d (Option.some FieldType.boolean) am_g74 0 L [] h (fun x => x = r)) : am_run (d + 1) 74 vs h = some r := am_run_w (k := 74) rfl rfl hl L hL hw
/-- StoneSecrets$Valley.openTo(I[I)I -/
theorem am_r75 {d : Nat} {vs : List Value} {h : am_H} {r : am_R} (hl : (am_en vs).length ≤ 3) (L : am_L) (hL : am_en0 vs 3 = L) (hw : am_w d (Option.some FieldType.int) am_g75 0 L [] h (fun x => x = r)) : am_run (d + 1) 75 vs h = some r := am_run_w (k := 75) rfl rfl hl L hL hw
/-- StoneSecrets$Valley.allPlaces()I -/
theorem am_r76 {d : Nat} {vs : List Value} {h : am_H} {r : am_R} (hl : (am_en vs).length ≤ 1) (L : am_L) (hL : am_en0 vs 1 = L) (hw : am_w d (Option.some FieldType.int) am_g76 0 L [] h (fun x => x = r)) : am_run (d + 1) 76 vs h = some r := am_run_w (k := 76) rfl rfl hl L hL hw
/-- StoneSecrets.taken([I)I -/
theorem am_r77 {d : Nat} {vs : List Value} {h : am_H} {r : am_R} (hl : (am_en vs).length ≤ 6) (L : am_L) (hL : am_en0 vs 6 = L) (hw : am_w d (Option.some FieldType.int) am_g77 0 L [] h (fun x => x = r)) : am_run (d + 1) 77 vs h = some r := am_run_w (k := 77) rfl rfl hl L hL hw
/-- StoneSecrets$Valley.nearFoes(I[I)I -/
theorem am_r78 {d : Nat} {vs : List Value} {h : am_H} {r : am_R} (hl : (am_en vs).length ≤ 5) (L : am_L) (hL : am_en0 vs 5 = L) (hw : am_w d (Option.some FieldType.int) am_g78 0 L [] h (fun x => x = r)) : am_run (d + 1) 78 vs h = some r := am_run_w (k := 78) rfl rfl hl L hL hw
/-- StoneSecrets.besideSpot(I)I -/
theorem am_r79 {d : Nat} {vs : List Value} {h : am_H} {r : am_R} (hl : (am_en vs).length ≤ 1) (L : am_L) (hL : am_en0 vs 1 = L) (hw : am_w d (Option.some FieldType.int) am_g79 0 L [] h (fun x => x = r)) : am_run (d + 1) 79 vs h = some r := am_run_w (k := 79) rfl rfl hl L hL hw
/-- StoneSecrets$Past.keep(LStoneSecrets$Wall;)V -/
theorem am_r80 {d : Nat} {vs : List Value} {h : am_H} {r : am_R} (hl : (am_en vs).length ≤ 2) (L : am_L) (hL : am_en0 vs 2 = L) (hw : am_w d (Option.none : Option FieldType) am_g80 0 L [] h (fun x => x = r)) : am_run (d + 1) 80 vs h = some r := am_run_w (k := 80) rfl rfl hl L hL hw
/-- StoneSecrets$Wall.copyFrom(LStoneSecrets$Wall;)V -/
theorem am_r81 {d : Nat} {vs : List Value} {h : am_H} {r : am_R} (hl : (am_en vs).length ≤ 2) (L : am_L) (hL : am_en0 vs 2 = L) (hw : am_w d (Option.none : Option FieldType) am_g81 0 L [] h (fun x => x = r)) : am_run (d + 1) 81 vs h = some r := am_run_w (k := 81) rfl rfl hl L hL hw
/-- java/lang/Math.min(II)I -/
theorem am_r82 {d : Nat} {vs : List Value} {h : am_H} {r : am_R} (hl : (am_en vs).length ≤ 2) (L : am_L) (hL : am_en0 vs 2 = L) (hw : am_w d (Option.some FieldType.int) am_g82 0 L [] h (fun x => x = r)) : am_run (d + 1) 82 vs h = some r := am_run_w (k := 82) rfl rfl hl L hL hw
/-- StoneSecrets$Wall.perform(III)V -/
theorem am_r83 {d : Nat} {vs : List Value} {h : am_H} {r : am_R} (hl : (am_en vs).length ≤ 4) (L : am_L) (hL : am_en0 vs 4 = L) (hw : am_w d (Option.none : Option FieldType) am_g83 0 L [] h (fun x => x = r)) : am_run (d + 1) 83 vs h = some r := am_run_w (k := 83) rfl rfl hl L hL hw
/-- StoneSecrets$Valley.coldOf(I)I -/
theorem am_r84 {d : Nat} {vs : List Value} {h : am_H} {r : am_R} (hl : (am_en vs).length ≤ 2) (L : am_L) (hL : am_en0 vs 2 = L) (hw : am_w d (Option.some FieldType.int) am_g84 0 L [] h (fun x => x = r)) : am_run (d + 1) 84 vs h = some r := am_run_w (k := 84) rfl rfl hl L hL hw
/-- StoneSecrets$Wall.passWeek(I)I -/
theorem am_r85 {d : Nat} {vs : List Value} {h : am_H} {r : am_R} (hl : (am_en vs).length ≤ 4) (L : am_L) (hL : am_en0 vs 4 = L) (hw : am_w d (Option.some FieldType.int) am_g85 0 L [] h (fun x => x = r)) : am_run (d + 1) 85 vs h = some r := am_run_w (k := 85) rfl rfl hl L hL hw
/-- StoneSecrets$Wall.fallingBy(I)I -/
theorem am_r86 {d : Nat} {vs : List Value} {h : am_H} {r : am_R} (hl : (am_en vs).length ≤ 6) (L : am_L) (hL : am_en0 vs 6 = L) (hw : am_w d (Option.some FieldType.int) am_g86 0 L [] h (fun x => x = r)) : am_run (d + 1) 86 vs h = some r := am_run_w (k := 86) rfl rfl hl L hL hw
/-- StoneSecrets$Valley.drops(IIII)Z -/
theorem am_r87 {d : Nat} {vs : List Value} {h : am_H} {r : am_R} (hl : (am_en vs).length ≤ 5) (L : am_L) (hL : am_en0 vs 5 = L) (hw : am_w d (Option.some FieldType.boolean) am_g87 0 L [] h (fun x => x = r)) : am_run (d + 1) 87 vs h = some r := am_run_w (k := 87) rfl rfl hl L hL hw
/-- StoneSecrets$Law.holds(IIII)Z -/
theorem am_r88 {d : Nat} {vs : List Value} {h : am_H} {r : am_R} (hl : (am_en vs).length ≤ 8) (L : am_L) (hL : am_en0 vs 8 = L) (hw : am_w d (Option.some FieldType.boolean) am_g88 0 L [] h (fun x => x = r)) : am_run (d + 1) 88 vs h = some r := am_run_w (k := 88) rfl rfl hl L hL hw
/-- StoneSecrets$Law.factOf(IIIII)I -/
theorem am_r89 {d : Nat} {vs : List Value} {h : am_H} {r : am_R} (hl : (am_en vs).length ≤ 5) (L : am_L) (hL : am_en0 vs 5 = L) (hw : am_w d (Option.some FieldType.int) am_g89 0 L [] h (fun x => x = r)) : am_run (d + 1) 89 vs h = some r := am_run_w (k := 89) rfl rfl hl L hL hw
/-- StoneSecrets$Law.join(III)I -/
theorem am_r90 {d : Nat} {vs : List Value} {h : am_H} {r : am_R} (hl : (am_en vs).length ≤ 3) (L : am_L) (hL : am_en0 vs 3 = L) (hw : am_w d (Option.some FieldType.int) am_g90 0 L [] h (fun x => x = r)) : am_run (d + 1) 90 vs h = some r := am_run_w (k := 90) rfl rfl hl L hL hw
/-- StoneSecrets$Valley.canLeak(I)Z -/
theorem am_r91 {d : Nat} {vs : List Value} {h : am_H} {r : am_R} (hl : (am_en vs).length ≤ 2) (L : am_L) (hL : am_en0 vs 2 = L) (hw : am_w d (Option.some FieldType.boolean) am_g91 0 L [] h (fun x => x = r)) : am_run (d + 1) 91 vs h = some r := am_run_w (k := 91) rfl rfl hl L hL hw
/-- StoneSecrets.sets(II)Z -/
theorem am_r92 {d : Nat} {vs : List Value} {h : am_H} {r : am_R} (hl : (am_en vs).length ≤ 3) (L : am_L) (hL : am_en0 vs 3 = L) (hw : am_w d (Option.some FieldType.boolean) am_g92 0 L [] h (fun x => x = r)) : am_run (d + 1) 92 vs h = some r := am_run_w (k := 92) rfl rfl hl L hL hw
/-- StoneSecrets.take(I)I -/
theorem am_r93 {d : Nat} {vs : List Value} {h : am_H} {r : am_R} (hl : (am_en vs).length ≤ 3) (L : am_L) (hL : am_en0 vs 3 = L) (hw : am_w d (Option.some FieldType.int) am_g93 0 L [] h (fun x => x = r)) : am_run (d + 1) 93 vs h = some r := am_run_w (k := 93) rfl rfl hl L hL hw
/-- StoneSecrets.week()I -/
theorem am_r94 {d : Nat} {vs : List Value} {h : am_H} {r : am_R} (hl : (am_en vs).length ≤ 1) (L : am_L) (hL : am_en0 vs 1 = L) (hw : am_w d (Option.some FieldType.int) am_g94 0 L [] h (fun x => x = r)) : am_run (d + 1) 94 vs h = some r := am_run_w (k := 94) rfl rfl hl L hL hw
/-- StoneSecrets.undo()Z -/
theorem am_r95 {d : Nat} {vs : List Value} {h : am_H} {r : am_R} (hl : (am_en vs).length ≤ 1) (L : am_L) (hL : am_en0 vs 1 = L) (hw : am_w d (Option.some FieldType.boolean) am_g95 0 L [] h (fun x => x = r)) : am_run (d + 1) 95 vs h = some r := am_run_w (k := 95) rfl rfl hl L hL hw
/-- StoneSecrets$Past.bringBack(LStoneSecrets$Wall;)Z -/
theorem am_r96 {d : Nat} {vs : List Value} {h : am_H} {r : am_R} (hl : (am_en vs).length ≤ 2) (L : am_L) (hL : am_en0 vs 2 = L) (hw : am_w d (Option.some FieldType.boolean) am_g96 0 L [] h (fun x => x = r)) : am_run (d + 1) 96 vs h = some r := am_run_w (k := 96) rfl rfl hl L hL hw
/-- StoneSecrets.judged(I)I -/
theorem am_r97 {d : Nat} {vs : List Value} {h : am_H} {r : am_R} (hl : (am_en vs).length ≤ 6) (L : am_L) (hL : am_en0 vs 6 = L) (hw : am_w d (Option.some FieldType.int) am_g97 0 L [] h (fun x => x = r)) : am_run (d + 1) 97 vs h = some r := am_run_w (k := 97) rfl rfl hl L hL hw
/-- StoneSecrets$Wall.attempt(III)Z -/
theorem am_r98 {d : Nat} {vs : List Value} {h : am_H} {r : am_R} (hl : (am_en vs).length ≤ 5) (L : am_L) (hL : am_en0 vs 5 = L) (hw : am_w d (Option.some FieldType.boolean) am_g98 0 L [] h (fun x => x = r)) : am_run (d + 1) 98 vs h = some r := am_run_w (k := 98) rfl rfl hl L hL hw
/-- StoneSecrets$Wall.who(I)I -/
theorem am_r99 {d : Nat} {vs : List Value} {h : am_H} {r : am_R} (hl : (am_en vs).length ≤ 4) (L : am_L) (hL : am_en0 vs 4 = L) (hw : am_w d (Option.some FieldType.int) am_g99 0 L [] h (fun x => x = r)) : am_run (d + 1) 99 vs h = some r := am_run_w (k := 99) rfl rfl hl L hL hw
/-- StoneSecrets.may(I)I -/
theorem am_r100 {d : Nat} {vs : List Value} {h : am_H} {r : am_R} (hl : (am_en vs).length ≤ 2) (L : am_L) (hL : am_en0 vs 2 = L) (hw : am_w d (Option.some FieldType.int) am_g100 0 L [] h (fun x => x = r)) : am_run (d + 1) 100 vs h = some r := am_run_w (k := 100) rfl rfl hl L hL hw
/-- StoneSecrets.falls(I)I -/
theorem am_r101 {d : Nat} {vs : List Value} {h : am_H} {r : am_R} (hl : (am_en vs).length ≤ 3) (L : am_L) (hL : am_en0 vs 3 = L) (hw : am_w d (Option.some FieldType.int) am_g101 0 L [] h (fun x => x = r)) : am_run (d + 1) 101 vs h = some r := am_run_w (k := 101) rfl rfl hl L hL hw
/-- StoneSecrets.foresee()V -/
theorem am_r102 {d : Nat} {vs : List Value} {h : am_H} {r : am_R} (hl : (am_en vs).length ≤ 1) (L : am_L) (hL : am_en0 vs 1 = L) (hw : am_w d (Option.none : Option FieldType) am_g102 0 L [] h (fun x => x = r)) : am_run (d + 1) 102 vs h = some r := am_run_w (k := 102) rfl rfl hl L hL hw
/-- StoneSecrets$Future.prepare(III)V -/
theorem am_r103 {d : Nat} {vs : List Value} {h : am_H} {r : am_R} (hl : (am_en vs).length ≤ 10) (L : am_L) (hL : am_en0 vs 10 = L) (hw : am_w d (Option.none : Option FieldType) am_g103 0 L [] h (fun x => x = r)) : am_run (d + 1) 103 vs h = some r := am_run_w (k := 103) rfl rfl hl L hL hw
/-- java/lang/Math.max(II)I -/
theorem am_r104 {d : Nat} {vs : List Value} {h : am_H} {r : am_R} (hl : (am_en vs).length ≤ 2) (L : am_L) (hL : am_en0 vs 2 = L) (hw : am_w d (Option.some FieldType.int) am_g104 0 L [] h (fun x => x = r)) : am_run (d + 1) 104 vs h = some r := am_run_w (k := 104) rfl rfl hl L hL hw
/-- StoneSecrets$Future.cellOf(III)I -/
theorem am_r105 {d : Nat} {vs : List Value} {h : am_H} {r : am_R} (hl : (am_en vs).length ≤ 3) (L : am_L) (hL : am_en0 vs 3 = L) (hw : am_w d (Option.some FieldType.int) am_g105 0 L [] h (fun x => x = r)) : am_run (d + 1) 105 vs h = some r := am_run_w (k := 105) rfl rfl hl L hL hw
/-- StoneSecrets$Future.run([I)V -/
theorem am_r106 {d : Nat} {vs : List Value} {h : am_H} {r : am_R} (hl : (am_en vs).length ≤ 5) (L : am_L) (hL : am_en0 vs 5 = L) (hw : am_w d (Option.none : Option FieldType) am_g106 0 L [] h (fun x => x = r)) : am_run (d + 1) 106 vs h = some r := am_run_w (k := 106) rfl rfl hl L hL hw
/-- StoneSecrets$Future.nextTurn(I)I -/
theorem am_r107 {d : Nat} {vs : List Value} {h : am_H} {r : am_R} (hl : (am_en vs).length ≤ 6) (L : am_L) (hL : am_en0 vs 6 = L) (hw : am_w d (Option.some FieldType.int) am_g107 0 L [] h (fun x => x = r)) : am_run (d + 1) 107 vs h = some r := am_run_w (k := 107) rfl rfl hl L hL hw
/-- StoneSecrets$Future.dropAt(I)V -/
theorem am_r108 {d : Nat} {vs : List Value} {h : am_H} {r : am_R} (hl : (am_en vs).length ≤ 3) (L : am_L) (hL : am_en0 vs 3 = L) (hw : am_w d (Option.none : Option FieldType) am_g108 0 L [] h (fun x => x = r)) : am_run (d + 1) 108 vs h = some r := am_run_w (k := 108) rfl rfl hl L hL hw
/-- StoneSecrets.blurts(I)I -/
theorem am_r109 {d : Nat} {vs : List Value} {h : am_H} {r : am_R} (hl : (am_en vs).length ≤ 3) (L : am_L) (hL : am_en0 vs 3 = L) (hw : am_w d (Option.some FieldType.int) am_g109 0 L [] h (fun x => x = r)) : am_run (d + 1) 109 vs h = some r := am_run_w (k := 109) rfl rfl hl L hL hw
/-- StoneSecrets.later(I)I -/
theorem am_r110 {d : Nat} {vs : List Value} {h : am_H} {r : am_R} (hl : (am_en vs).length ≤ 2) (L : am_L) (hL : am_en0 vs 2 = L) (hw : am_w d (Option.some FieldType.int) am_g110 0 L [] h (fun x => x = r)) : am_run (d + 1) 110 vs h = some r := am_run_w (k := 110) rfl rfl hl L hL hw
/-- StoneSecrets$Future.standingBehind(I)I -/
theorem am_r111 {d : Nat} {vs : List Value} {h : am_H} {r : am_R} (hl : (am_en vs).length ≤ 4) (L : am_L) (hL : am_en0 vs 4 = L) (hw : am_w d (Option.some FieldType.int) am_g111 0 L [] h (fun x => x = r)) : am_run (d + 1) 111 vs h = some r := am_run_w (k := 111) rfl rfl hl L hL hw
/-- StoneSecrets.bare()I -/
theorem am_r112 {d : Nat} {vs : List Value} {h : am_H} {r : am_R} (hl : (am_en vs).length ≤ 2) (L : am_L) (hL : am_en0 vs 2 = L) (hw : am_w d (Option.some FieldType.int) am_g112 0 L [] h (fun x => x = r)) : am_run (d + 1) 112 vs h = some r := am_run_w (k := 112) rfl rfl hl L hL hw
/-- StoneSecrets.first()I -/
theorem am_r113 {d : Nat} {vs : List Value} {h : am_H} {r : am_R} (hl : (am_en vs).length ≤ 4) (L : am_L) (hL : am_en0 vs 4 = L) (hw : am_w d (Option.some FieldType.int) am_g113 0 L [] h (fun x => x = r)) : am_run (d + 1) 113 vs h = some r := am_run_w (k := 113) rfl rfl hl L hL hw
/-- StoneSecrets.least(I)I -/
theorem am_r114 {d : Nat} {vs : List Value} {h : am_H} {r : am_R} (hl : (am_en vs).length ≤ 4) (L : am_L) (hL : am_en0 vs 4 = L) (hw : am_w d (Option.some FieldType.int) am_g114 0 L [] h (fun x => x = r)) : am_run (d + 1) 114 vs h = some r := am_run_w (k := 114) rfl rfl hl L hL hw
/-- StoneSecrets.ways()I -/
theorem am_r115 {d : Nat} {vs : List Value} {h : am_H} {r : am_R} (hl : (am_en vs).length ≤ 2) (L : am_L) (hL : am_en0 vs 2 = L) (hw : am_w d (Option.some FieldType.int) am_g115 0 L [] h (fun x => x = r)) : am_run (d + 1) 115 vs h = some r := am_run_w (k := 115) rfl rfl hl L hL hw
/-- StoneSecrets.beginWays()V -/
theorem am_r116 {d : Nat} {vs : List Value} {h : am_H} {r : am_R} (hl : (am_en vs).length ≤ 1) (L : am_L) (hL : am_en0 vs 1 = L) (hw : am_w d (Option.none : Option FieldType) am_g116 0 L [] h (fun x => x = r)) : am_run (d + 1) 116 vs h = some r := am_run_w (k := 116) rfl rfl hl L hL hw
/-- StoneSecrets$Wall.loose()I -/
theorem am_r117 {d : Nat} {vs : List Value} {h : am_H} {r : am_R} (hl : (am_en vs).length ≤ 1) (L : am_L) (hL : am_en0 vs 1 = L) (hw : am_w d (Option.some FieldType.int) am_g117 0 L [] h (fun x => x = r)) : am_run (d + 1) 117 vs h = some r := am_run_w (k := 117) rfl rfl hl L hL hw
/-- StoneSecrets$Ways.begin([III)V -/
theorem am_r118 {d : Nat} {vs : List Value} {h : am_H} {r : am_R} (hl : (am_en vs).length ≤ 5) (L : am_L) (hL : am_en0 vs 5 = L) (hw : am_w d (Option.none : Option FieldType) am_g118 0 L [] h (fun x => x = r)) : am_run (d + 1) 118 vs h = some r := am_run_w (k := 118) rfl rfl hl L hL hw
/-- StoneSecrets$Ways.next()Z -/
theorem am_r119 {d : Nat} {vs : List Value} {h : am_H} {r : am_R} (hl : (am_en vs).length ≤ 5) (L : am_L) (hL : am_en0 vs 5 = L) (hw : am_w d (Option.some FieldType.boolean) am_g119 0 L [] h (fun x => x = r)) : am_run (d + 1) 119 vs h = some r := am_run_w (k := 119) rfl rfl hl L hL hw
/-- StoneSecrets$Ways.enter(I)V -/
theorem am_r120 {d : Nat} {vs : List Value} {h : am_H} {r : am_R} (hl : (am_en vs).length ≤ 2) (L : am_L) (hL : am_en0 vs 2 = L) (hw : am_w d (Option.none : Option FieldType) am_g120 0 L [] h (fun x => x = r)) : am_run (d + 1) 120 vs h = some r := am_run_w (k := 120) rfl rfl hl L hL hw
/-- StoneSecrets.way(II)I -/
theorem am_r121 {d : Nat} {vs : List Value} {h : am_H} {r : am_R} (hl : (am_en vs).length ≤ 4) (L : am_L) (hL : am_en0 vs 4 = L) (hw : am_w d (Option.some FieldType.int) am_g121 0 L [] h (fun x => x = r)) : am_run (d + 1) 121 vs h = some r := am_run_w (k := 121) rfl rfl hl L hL hw
/-- StoneSecrets$Wall.isStone(I)Z -/
theorem am_r122 {d : Nat} {vs : List Value} {h : am_H} {r : am_R} (hl : (am_en vs).length ≤ 2) (L : am_L) (hL : am_en0 vs 2 = L) (hw : am_w d (Option.some FieldType.boolean) am_g122 0 L [] h (fun x => x = r)) : am_run (d + 1) 122 vs h = some r := am_run_w (k := 122) rfl rfl hl L hL hw
/-- StoneSecrets.times(II)I -/
theorem am_r123 {d : Nat} {vs : List Value} {h : am_H} {r : am_R} (hl : (am_en vs).length ≤ 5) (L : am_L) (hL : am_en0 vs 5 = L) (hw : am_w d (Option.some FieldType.int) am_g123 0 L [] h (fun x => x = r)) : am_run (d + 1) 123 vs h = some r := am_run_w (k := 123) rfl rfl hl L hL hw
/-- StoneSecrets.sure(I)I -/
theorem am_r124 {d : Nat} {vs : List Value} {h : am_H} {r : am_R} (hl : (am_en vs).length ≤ 4) (L : am_L) (hL : am_en0 vs 4 = L) (hw : am_w d (Option.some FieldType.int) am_g124 0 L [] h (fun x => x = r)) : am_run (d + 1) 124 vs h = some r := am_run_w (k := 124) rfl rfl hl L hL hw
/-- StoneSecrets.most()I -/
theorem am_r125 {d : Nat} {vs : List Value} {h : am_H} {r : am_R} (hl : (am_en vs).length ≤ 1) (L : am_L) (hL : am_en0 vs 1 = L) (hw : am_w d (Option.some FieldType.int) am_g125 0 L [] h (fun x => x = r)) : am_run (d + 1) 125 vs h = some r := am_run_w (k := 125) rfl rfl hl L hL hw
/-- StoneSecrets.fullestSet()I -/
theorem am_r126 {d : Nat} {vs : List Value} {h : am_H} {r : am_R} (hl : (am_en vs).length ≤ 6) (L : am_L) (hL : am_en0 vs 6 = L) (hw : am_w d (Option.some FieldType.int) am_g126 0 L [] h (fun x => x = r)) : am_run (d + 1) 126 vs h = some r := am_run_w (k := 126) rfl rfl hl L hL hw
/-- StoneSecrets.isWithin(II)Z -/
theorem am_r127 {d : Nat} {vs : List Value} {h : am_H} {r : am_R} (hl : (am_en vs).length ≤ 2) (L : am_L) (hL : am_en0 vs 2 = L) (hw : am_w d (Option.some FieldType.boolean) am_g127 0 L [] h (fun x => x = r)) : am_run (d + 1) 127 vs h = some r := am_run_w (k := 127) rfl rfl hl L hL hw
/-- StoneSecrets$Ways.isAny([III)Z -/
theorem am_r128 {d : Nat} {vs : List Value} {h : am_H} {r : am_R} (hl : (am_en vs).length ≤ 4) (L : am_L) (hL : am_en0 vs 4 = L) (hw : am_w d (Option.some FieldType.boolean) am_g128 0 L [] h (fun x => x = r)) : am_run (d + 1) 128 vs h = some r := am_run_w (k := 128) rfl rfl hl L hL hw
/-- StoneSecrets.fullest()I -/
theorem am_r129 {d : Nat} {vs : List Value} {h : am_H} {r : am_R} (hl : (am_en vs).length ≤ 1) (L : am_L) (hL : am_en0 vs 1 = L) (hw : am_w d (Option.some FieldType.int) am_g129 0 L [] h (fun x => x = r)) : am_run (d + 1) 129 vs h = some r := am_run_w (k := 129) rfl rfl hl L hL hw
/-- StoneSecrets.clear()I -/
theorem am_r130 {d : Nat} {vs : List Value} {h : am_H} {r : am_R} (hl : (am_en vs).length ≤ 6) (L : am_L) (hL : am_en0 vs 6 = L) (hw : am_w d (Option.some FieldType.int) am_g130 0 L [] h (fun x => x = r)) : am_run (d + 1) 130 vs h = some r := am_run_w (k := 130) rfl rfl hl L hL hw
/-- StoneSecrets.best(II)I -/
theorem am_r131 {d : Nat} {vs : List Value} {h : am_H} {r : am_R} (hl : (am_en vs).length ≤ 9) (L : am_L) (hL : am_en0 vs 9 = L) (hw : am_w d (Option.some FieldType.int) am_g131 0 L [] h (fun x => x = r)) : am_run (d + 1) 131 vs h = some r := am_run_w (k := 131) rfl rfl hl L hL hw
/-- StoneSecrets.lean()I -/
theorem am_r132 {d : Nat} {vs : List Value} {h : am_H} {r : am_R} (hl : (am_en vs).length ≤ 1) (L : am_L) (hL : am_en0 vs 1 = L) (hw : am_w d (Option.some FieldType.int) am_g132 0 L [] h (fun x => x = r)) : am_run (d + 1) 132 vs h = some r := am_run_w (k := 132) rfl rfl hl L hL hw
/-- StoneSecrets$Valley.leanOf([I)I -/
theorem am_r133 {d : Nat} {vs : List Value} {h : am_H} {r : am_R} (hl : (am_en vs).length ≤ 4) (L : am_L) (hL : am_en0 vs 4 = L) (hw : am_w d (Option.some FieldType.int) am_g133 0 L [] h (fun x => x = r)) : am_run (d + 1) 133 vs h = some r := am_run_w (k := 133) rfl rfl hl L hL hw
/-- java/lang/Math.abs(I)I -/
theorem am_r134 {d : Nat} {vs : List Value} {h : am_H} {r : am_R} (hl : (am_en vs).length ≤ 1) (L : am_L) (hL : am_en0 vs 1 = L) (hw : am_w d (Option.some FieldType.int) am_g134 0 L [] h (fun x => x = r)) : am_run (d + 1) 134 vs h = some r := am_run_w (k := 134) rfl rfl hl L hL hw
/-- StoneSecrets.even(I)I -/
theorem am_r135 {d : Nat} {vs : List Value} {h : am_H} {r : am_R} (hl : (am_en vs).length ≤ 6) (L : am_L) (hL : am_en0 vs 6 = L) (hw : am_w d (Option.some FieldType.int) am_g135 0 L [] h (fun x => x = r)) : am_run (d + 1) 135 vs h = some r := am_run_w (k := 135) rfl rfl hl L hL hw
/-- StoneSecrets.colours()I -/
theorem am_r136 {d : Nat} {vs : List Value} {h : am_H} {r : am_R} (hl : (am_en vs).length ≤ 1) (L : am_L) (hL : am_en0 vs 1 = L) (hw : am_w d (Option.some FieldType.int) am_g136 0 L [] h (fun x => x = r)) : am_run (d + 1) 136 vs h = some r := am_run_w (k := 136) rfl rfl hl L hL hw
/-- StoneSecrets$Wall.notOut()I -/
theorem am_r137 {d : Nat} {vs : List Value} {h : am_H} {r : am_R} (hl : (am_en vs).length ≤ 1) (L : am_L) (hL : am_en0 vs 1 = L) (hw : am_w d (Option.some FieldType.int) am_g137 0 L [] h (fun x => x = r)) : am_run (d + 1) 137 vs h = some r := am_run_w (k := 137) rfl rfl hl L hL hw
/-- StoneSecrets$Feuds.paint(I)I -/
theorem am_r138 {d : Nat} {vs : List Value} {h : am_H} {r : am_R} (hl : (am_en vs).length ≤ 3) (L : am_L) (hL : am_en0 vs 3 = L) (hw : am_w d (Option.some FieldType.int) am_g138 0 L [] h (fun x => x = r)) : am_run (d + 1) 138 vs h = some r := am_run_w (k := 138) rfl rfl hl L hL hw
/-- StoneSecrets$Feuds.paintFrom(III)Z -/
theorem am_r139 {d : Nat} {vs : List Value} {h : am_H} {r : am_R} (hl : (am_en vs).length ≤ 5) (L : am_L) (hL : am_en0 vs 5 = L) (hw : am_w d (Option.some FieldType.boolean) am_g139 0 L [] h (fun x => x = r)) : am_run (d + 1) 139 vs h = some r := am_run_w (k := 139) rfl rfl hl L hL hw
/-- StoneSecrets$Feuds.isAtPeace(I)Z -/
theorem am_r140 {d : Nat} {vs : List Value} {h : am_H} {r : am_R} (hl : (am_en vs).length ≤ 3) (L : am_L) (hL : am_en0 vs 3 = L) (hw : am_w d (Option.some FieldType.boolean) am_g140 0 L [] h (fun x => x = r)) : am_run (d + 1) 140 vs h = some r := am_run_w (k := 140) rfl rfl hl L hL hw
/-- StoneSecrets.colour(I)I -/
theorem am_r141 {d : Nat} {vs : List Value} {h : am_H} {r : am_R} (hl : (am_en vs).length ≤ 2) (L : am_L) (hL : am_en0 vs 2 = L) (hw : am_w d (Option.some FieldType.int) am_g141 0 L [] h (fun x => x = r)) : am_run (d + 1) 141 vs h = some r := am_run_w (k := 141) rfl rfl hl L hL hw
/-- StoneSecrets.feud()I -/
theorem am_r142 {d : Nat} {vs : List Value} {h : am_H} {r : am_R} (hl : (am_en vs).length ≤ 1) (L : am_L) (hL : am_en0 vs 1 = L) (hw : am_w d (Option.some FieldType.int) am_g142 0 L [] h (fun x => x = r)) : am_run (d + 1) 142 vs h = some r := am_run_w (k := 142) rfl rfl hl L hL hw
/-- StoneSecrets$Feuds.largest(IZ)I -/
theorem am_r143 {d : Nat} {vs : List Value} {h : am_H} {r : am_R} (hl : (am_en vs).length ≤ 6) (L : am_L) (hL : am_en0 vs 6 = L) (hw : am_w d (Option.some FieldType.int) am_g143 0 L [] h (fun x => x = r)) : am_run (d + 1) 143 vs h = some r := am_run_w (k := 143) rfl rfl hl L hL hw
/-- StoneSecrets$Feuds.isAlike(IZ)Z -/
theorem am_r144 {d : Nat} {vs : List Value} {h : am_H} {r : am_R} (hl : (am_en vs).length ≤ 6) (L : am_L) (hL : am_en0 vs 6 = L) (hw : am_w d (Option.some FieldType.boolean) am_g144 0 L [] h (fun x => x = r)) : am_run (d + 1) 144 vs h = some r := am_run_w (k := 144) rfl rfl hl L hL hw
/-- StoneSecrets.calm()I -/
theorem am_r145 {d : Nat} {vs : List Value} {h : am_H} {r : am_R} (hl : (am_en vs).length ≤ 1) (L : am_L) (hL : am_en0 vs 1 = L) (hw : am_w d (Option.some FieldType.int) am_g145 0 L [] h (fun x => x = r)) : am_run (d + 1) 145 vs h = some r := am_run_w (k := 145) rfl rfl hl L hL hw
/-- StoneSecrets.grudges(I)I -/
theorem am_r146 {d : Nat} {vs : List Value} {h : am_H} {r : am_R} (hl : (am_en vs).length ≤ 2) (L : am_L) (hL : am_en0 vs 2 = L) (hw : am_w d (Option.some FieldType.int) am_g146 0 L [] h (fun x => x = r)) : am_run (d + 1) 146 vs h = some r := am_run_w (k := 146) rfl rfl hl L hL hw
/-- StoneSecrets.load()I -/
theorem am_r147 {d : Nat} {vs : List Value} {h : am_H} {r : am_R} (hl : (am_en vs).length ≤ 3) (L : am_L) (hL : am_en0 vs 3 = L) (hw : am_w d (Option.some FieldType.int) am_g147 0 L [] h (fun x => x = r)) : am_run (d + 1) 147 vs h = some r := am_run_w (k := 147) rfl rfl hl L hL hw
/-- StoneSecrets.gaps()I -/
theorem am_r148 {d : Nat} {vs : List Value} {h : am_H} {r : am_R} (hl : (am_en vs).length ≤ 3) (L : am_L) (hL : am_en0 vs 3 = L) (hw : am_w d (Option.some FieldType.int) am_g148 0 L [] h (fun x => x = r)) : am_run (d + 1) 148 vs h = some r := am_run_w (k := 148) rfl rfl hl L hL hw
/-- StoneSecrets.widest()I -/
theorem am_r149 {d : Nat} {vs : List Value} {h : am_H} {r : am_R} (hl : (am_en vs).length ≤ 5) (L : am_L) (hL : am_en0 vs 5 = L) (hw : am_w d (Option.some FieldType.int) am_g149 0 L [] h (fun x => x = r)) : am_run (d + 1) 149 vs h = some r := am_run_w (k := 149) rfl rfl hl L hL hw
/-- StoneSecrets.heavy()I -/
theorem am_r150 {d : Nat} {vs : List Value} {h : am_H} {r : am_R} (hl : (am_en vs).length ≤ 4) (L : am_L) (hL : am_en0 vs 4 = L) (hw : am_w d (Option.some FieldType.int) am_g150 0 L [] h (fun x => x = r)) : am_run (d + 1) 150 vs h = some r := am_run_w (k := 150) rfl rfl hl L hL hw
/-- StoneSecrets.beside(I)I -/
theorem am_r151 {d : Nat} {vs : List Value} {h : am_H} {r : am_R} (hl : (am_en vs).length ≤ 5) (L : am_L) (hL : am_en0 vs 5 = L) (hw : am_w d (Option.some FieldType.int) am_g151 0 L [] h (fun x => x = r)) : am_run (d + 1) 151 vs h = some r := am_run_w (k := 151) rfl rfl hl L hL hw
/-- StoneSecrets.like()I -/
theorem am_r152 {d : Nat} {vs : List Value} {h : am_H} {r : am_R} (hl : (am_en vs).length ≤ 4) (L : am_L) (hL : am_en0 vs 4 = L) (hw : am_w d (Option.some FieldType.int) am_g152 0 L [] h (fun x => x = r)) : am_run (d + 1) 152 vs h = some r := am_run_w (k := 152) rfl rfl hl L hL hw
/-- StoneSecrets.swaps()I -/
theorem am_r153 {d : Nat} {vs : List Value} {h : am_H} {r : am_R} (hl : (am_en vs).length ≤ 4) (L : am_L) (hL : am_en0 vs 4 = L) (hw : am_w d (Option.some FieldType.int) am_g153 0 L [] h (fun x => x = r)) : am_run (d + 1) 153 vs h = some r := am_run_w (k := 153) rfl rfl hl L hL hw
/-- StoneSecrets.canSwap(II)Z -/
theorem am_r154 {d : Nat} {vs : List Value} {h : am_H} {r : am_R} (hl : (am_en vs).length ≤ 4) (L : am_L) (hL : am_en0 vs 4 = L) (hw : am_w d (Option.some FieldType.boolean) am_g154 0 L [] h (fun x => x = r)) : am_run (d + 1) 154 vs h = some r := am_run_w (k := 154) rfl rfl hl L hL hw
/-- StoneSecrets.see(IIZ)Z -/
theorem am_r155 {d : Nat} {vs : List Value} {h : am_H} {r : am_R} (hl : (am_en vs).length ≤ 4) (L : am_L) (hL : am_en0 vs 4 = L) (hw : am_w d (Option.some FieldType.boolean) am_g155 0 L [] h (fun x => x = r)) : am_run (d + 1) 155 vs h = some r := am_run_w (k := 155) rfl rfl hl L hL hw
/-- StoneSecrets$Seen.add(IIZ)Z -/
theorem am_r156 {d : Nat} {vs : List Value} {h : am_H} {r : am_R} (hl : (am_en vs).length ≤ 4) (L : am_L) (hL : am_en0 vs 4 = L) (hw : am_w d (Option.some FieldType.boolean) am_g156 0 L [] h (fun x => x = r)) : am_run (d + 1) 156 vs h = some r := am_run_w (k := 156) rfl rfl hl L hL hw
/-- StoneSecrets.fit()I -/
theorem am_r157 {d : Nat} {vs : List Value} {h : am_H} {r : am_R} (hl : (am_en vs).length ≤ 1) (L : am_L) (hL : am_en0 vs 1 = L) (hw : am_w d (Option.some FieldType.int) am_g157 0 L [] h (fun x => x = r)) : am_run (d + 1) 157 vs h = some r := am_run_w (k := 157) rfl rfl hl L hL hw
/-- StoneSecrets.tallyFits()I -/
theorem am_r158 {d : Nat} {vs : List Value} {h : am_H} {r : am_R} (hl : (am_en vs).length ≤ 4) (L : am_L) (hL : am_en0 vs 4 = L) (hw : am_w d (Option.some FieldType.int) am_g158 0 L [] h (fun x => x = r)) : am_run (d + 1) 158 vs h = some r := am_run_w (k := 158) rfl rfl hl L hL hw
/-- StoneSecrets$Ways.weigh()V -/
theorem am_r159 {d : Nat} {vs : List Value} {h : am_H} {r : am_R} (hl : (am_en vs).length ≤ 2) (L : am_L) (hL : am_en0 vs 2 = L) (hw : am_w d (Option.none : Option FieldType) am_g159 0 L [] h (fun x => x = r)) : am_run (d + 1) 159 vs h = some r := am_run_w (k := 159) rfl rfl hl L hL hw
/-- StoneSecrets$Seen.agrees([I)Z -/
theorem am_r160 {d : Nat} {vs : List Value} {h : am_H} {r : am_R} (hl : (am_en vs).length ≤ 4) (L : am_L) (hL : am_en0 vs 4 = L) (hw : am_w d (Option.some FieldType.boolean) am_g160 0 L [] h (fun x => x = r)) : am_run (d + 1) 160 vs h = some r := am_run_w (k := 160) rfl rfl hl L hL hw
/-- StoneSecrets.look()I -/
theorem am_r161 {d : Nat} {vs : List Value} {h : am_H} {r : am_R} (hl : (am_en vs).length ≤ 5) (L : am_L) (hL : am_en0 vs 5 = L) (hw : am_w d (Option.some FieldType.int) am_g161 0 L [] h (fun x => x = r)) : am_run (d + 1) 161 vs h = some r := am_run_w (k := 161) rfl rfl hl L hL hw
/-- StoneSecrets.greatestTally(I)I -/
theorem am_r162 {d : Nat} {vs : List Value} {h : am_H} {r : am_R} (hl : (am_en vs).length ≤ 4) (L : am_L) (hL : am_en0 vs 4 = L) (hw : am_w d (Option.some FieldType.int) am_g162 0 L [] h (fun x => x = r)) : am_run (d + 1) 162 vs h = some r := am_run_w (k := 162) rfl rfl hl L hL hw
/-- StoneSecrets.chance(III)I -/
theorem am_r163 {d : Nat} {vs : List Value} {h : am_H} {r : am_R} (hl : (am_en vs).length ≤ 7) (L : am_L) (hL : am_en0 vs 7 = L) (hw : am_w d (Option.some FieldType.int) am_g163 0 L [] h (fun x => x = r)) : am_run (d + 1) 163 vs h = some r := am_run_w (k := 163) rfl rfl hl L hL hw
/-- StoneSecrets.shareOf(III)I -/
theorem am_r164 {d : Nat} {vs : List Value} {h : am_H} {r : am_R} (hl : (am_en vs).length ≤ 5) (L : am_L) (hL : am_en0 vs 5 = L) (hw : am_w d (Option.some FieldType.int) am_g164 0 L [] h (fun x => x = r)) : am_run (d + 1) 164 vs h = some r := am_run_w (k := 164) rfl rfl hl L hL hw
/-- StoneSecrets.outlasts(III)Z -/
theorem am_r165 {d : Nat} {vs : List Value} {h : am_H} {r : am_R} (hl : (am_en vs).length ≤ 5) (L : am_L) (hL : am_en0 vs 5 = L) (hw : am_w d (Option.some FieldType.boolean) am_g165 0 L [] h (fun x => x = r)) : am_run (d + 1) 165 vs h = some r := am_run_w (k := 165) rfl rfl hl L hL hw
/-- StoneSecrets.centuries(III)I -/
theorem am_r166 {d : Nat} {vs : List Value} {h : am_H} {r : am_R} (hl : (am_en vs).length ≤ 10) (L : am_L) (hL : am_en0 vs 10 = L) (hw : am_w d (Option.some FieldType.int) am_g166 0 L [] h (fun x => x = r)) : am_run (d + 1) 166 vs h = some r := am_run_w (k := 166) rfl rfl hl L hL hw
/-- StoneSecrets.nextSeed(J)J -/
theorem am_r167 {d : Nat} {vs : List Value} {h : am_H} {r : am_R} (hl : (am_en vs).length ≤ 2) (L : am_L) (hL : am_en0 vs 2 = L) (hw : am_w d (Option.some FieldType.long) am_g167 0 L [] h (fun x => x = r)) : am_run (d + 1) 167 vs h = some r := am_run_w (k := 167) rfl rfl hl L hL hw
/-- StoneSecrets.drawOf(JI)I -/
theorem am_r168 {d : Nat} {vs : List Value} {h : am_H} {r : am_R} (hl : (am_en vs).length ≤ 3) (L : am_L) (hL : am_en0 vs 3 = L) (hw : am_w d (Option.some FieldType.int) am_g168 0 L [] h (fun x => x = r)) : am_run (d + 1) 168 vs h = some r := am_run_w (k := 168) rfl rfl hl L hL hw
/-- StoneSecrets.deedOf(I)I -/
theorem am_r169 {d : Nat} {vs : List Value} {h : am_H} {r : am_R} (hl : (am_en vs).length ≤ 1) (L : am_L) (hL : am_en0 vs 1 = L) (hw : am_w d (Option.some FieldType.int) am_g169 0 L [] h (fun x => x = r)) : am_run (d + 1) 169 vs h = some r := am_run_w (k := 169) rfl rfl hl L hL hw
/-- StoneSecrets.mark(IZ)Z -/
theorem am_r170 {d : Nat} {vs : List Value} {h : am_H} {r : am_R} (hl : (am_en vs).length ≤ 3) (L : am_L) (hL : am_en0 vs 3 = L) (hw : am_w d (Option.some FieldType.boolean) am_g170 0 L [] h (fun x => x = r)) : am_run (d + 1) 170 vs h = some r := am_run_w (k := 170) rfl rfl hl L hL hw
/-- StoneSecrets$Past.goBack(ILStoneSecrets$Wall;LStoneSecrets$Seen;)Z -/
theorem am_r171 {d : Nat} {vs : List Value} {h : am_H} {r : am_R} (hl : (am_en vs).length ≤ 4) (L : am_L) (hL : am_en0 vs 4 = L) (hw : am_w d (Option.some FieldType.boolean) am_g171 0 L [] h (fun x => x = r)) : am_run (d + 1) 171 vs h = some r := am_run_w (k := 171) rfl rfl hl L hL hw
/-- StoneSecrets$Seen.copyFrom(LStoneSecrets$Seen;)V -/
theorem am_r172 {d : Nat} {vs : List Value} {h : am_H} {r : am_R} (hl : (am_en vs).length ≤ 2) (L : am_L) (hL : am_en0 vs 2 = L) (hw : am_w d (Option.none : Option FieldType) am_g172 0 L [] h (fun x => x = r)) : am_run (d + 1) 172 vs h = some r := am_run_w (k := 172) rfl rfl hl L hL hw
/-- StoneSecrets$Past.layMark(ILStoneSecrets$Wall;LStoneSecrets$Seen;)V -/
theorem am_r173 {d : Nat} {vs : List Value} {h : am_H} {r : am_R} (hl : (am_en vs).length ≤ 4) (L : am_L) (hL : am_en0 vs 4 = L) (hw : am_w d (Option.none : Option FieldType) am_g173 0 L [] h (fun x => x = r)) : am_run (d + 1) 173 vs h = some r := am_run_w (k := 173) rfl rfl hl L hL hw
/-- StoneSecrets.count(I)I -/
theorem am_r174 {d : Nat} {vs : List Value} {h : am_H} {r : am_R} (hl : (am_en vs).length ≤ 2) (L : am_L) (hL : am_en0 vs 2 = L) (hw : am_w d (Option.some FieldType.int) am_g174 0 L [] h (fun x => x = r)) : am_run (d + 1) 174 vs h = some r := am_run_w (k := 174) rfl rfl hl L hL hw
/-- StoneSecrets.isDigit(I)Z -/
theorem am_r175 {d : Nat} {vs : List Value} {h : am_H} {r : am_R} (hl : (am_en vs).length ≤ 1) (L : am_L) (hL : am_en0 vs 1 = L) (hw : am_w d (Option.some FieldType.boolean) am_g175 0 L [] h (fun x => x = r)) : am_run (d + 1) 175 vs h = some r := am_run_w (k := 175) rfl rfl hl L hL hw
/-- StoneSecrets.gain(IIIII)I -/
theorem am_r176 {d : Nat} {vs : List Value} {h : am_H} {r : am_R} (hl : (am_en vs).length ≤ 5) (L : am_L) (hL : am_en0 vs 5 = L) (hw : am_w d (Option.some FieldType.int) am_g176 0 L [] h (fun x => x = r)) : am_run (d + 1) 176 vs h = some r := am_run_w (k := 176) rfl rfl hl L hL hw
/-- StoneSecretsModel.thrown()I -/
theorem am_r177 {d : Nat} {vs : List Value} {h : am_H} {r : am_R} (hl : (am_en vs).length ≤ 1) (L : am_L) (hL : am_en0 vs 1 = L) (hw : am_w d (Option.some FieldType.int) am_g177 0 L [] h (fun x => x = r)) : am_run (d + 1) 177 vs h = some r := am_run_w (k := 177) rfl rfl hl L hL hw
/-- StoneSecretsModel.feed(JJJ)I -/
theorem am_r178 {d : Nat} {vs : List Value} {h : am_H} {r : am_R} (hl : (am_en vs).length ≤ 7) (L : am_L) (hL : am_en0 vs 7 = L) (hw : am_w d (Option.some FieldType.int) am_g178 0 L [] h (fun x => x = r)) : am_run (d + 1) 178 vs h = some r := am_run_w (k := 178) rfl rfl hl L hL hw
/-- StoneSecretsModel.lay(J)V -/
theorem am_r179 {d : Nat} {vs : List Value} {h : am_H} {r : am_R} (hl : (am_en vs).length ≤ 5) (L : am_L) (hL : am_en0 vs 5 = L) (hw : am_w d (Option.none : Option FieldType) am_g179 0 L [] h (fun x => x = r)) : am_run (d + 1) 179 vs h = some r := am_run_w (k := 179) rfl rfl hl L hL hw
/-- StoneSecretsModel.<init>()V -/
theorem am_r180 {d : Nat} {vs : List Value} {h : am_H} {r : am_R} (hl : (am_en vs).length ≤ 1) (L : am_L) (hL : am_en0 vs 1 = L) (hw : am_w d (Option.none : Option FieldType) am_g180 0 L [] h (fun x => x = r)) : am_run (d + 1) 180 vs h = some r := am_run_w (k := 180) rfl rfl hl L hL hw
/-- StoneSecretsModel.standsAsAlways(I)V -/
theorem am_r181 {d : Nat} {vs : List Value} {h : am_H} {r : am_R} (hl : (am_en vs).length ≤ 3) (L : am_L) (hL : am_en0 vs 3 = L) (hw : am_w d (Option.none : Option FieldType) am_g181 0 L [] h (fun x => x = r)) : am_run (d + 1) 181 vs h = some r := am_run_w (k := 181) rfl rfl hl L hL hw
/-- StoneSecretsModel.begins()V -/
theorem am_r182 {d : Nat} {vs : List Value} {h : am_H} {r : am_R} (hl : (am_en vs).length ≤ 2) (L : am_L) (hL : am_en0 vs 2 = L) (hw : am_w d (Option.none : Option FieldType) am_g182 0 L [] h (fun x => x = r)) : am_run (d + 1) 182 vs h = some r := am_run_w (k := 182) rfl rfl hl L hL hw
/-- StoneSecretsModel.starts(I)V -/
theorem am_r183 {d : Nat} {vs : List Value} {h : am_H} {r : am_R} (hl : (am_en vs).length ≤ 3) (L : am_L) (hL : am_en0 vs 3 = L) (hw : am_w d (Option.none : Option FieldType) am_g183 0 L [] h (fun x => x = r)) : am_run (d + 1) 183 vs h = some r := am_run_w (k := 183) rfl rfl hl L hL hw
/-- StoneSecretsModel.valley()I -/
theorem am_r184 {d : Nat} {vs : List Value} {h : am_H} {r : am_R} (hl : (am_en vs).length ≤ 2) (L : am_L) (hL : am_en0 vs 2 = L) (hw : am_w d (Option.some FieldType.int) am_g184 0 L [] h (fun x => x = r)) : am_run (d + 1) 184 vs h = some r := am_run_w (k := 184) rfl rfl hl L hL hw
/-- StoneSecretsModel.cutAll()V -/
theorem am_r185 {d : Nat} {vs : List Value} {h : am_H} {r : am_R} (hl : (am_en vs).length ≤ 7) (L : am_L) (hL : am_en0 vs 7 = L) (hw : am_w d (Option.none : Option FieldType) am_g185 0 L [] h (fun x => x = r)) : am_run (d + 1) 185 vs h = some r := am_run_w (k := 185) rfl rfl hl L hL hw
/-- StoneSecretsModel.isLetter(I)Z -/
theorem am_r186 {d : Nat} {vs : List Value} {h : am_H} {r : am_R} (hl : (am_en vs).length ≤ 1) (L : am_L) (hL : am_en0 vs 1 = L) (hw : am_w d (Option.some FieldType.boolean) am_g186 0 L [] h (fun x => x = r)) : am_run (d + 1) 186 vs h = some r := am_run_w (k := 186) rfl rfl hl L hL hw
/-- StoneSecretsModel.rank(I)I -/
theorem am_r187 {d : Nat} {vs : List Value} {h : am_H} {r : am_R} (hl : (am_en vs).length ≤ 1) (L : am_L) (hL : am_en0 vs 1 = L) (hw : am_w d (Option.some FieldType.int) am_g187 0 L [] h (fun x => x = r)) : am_run (d + 1) 187 vs h = some r := am_run_w (k := 187) rfl rfl hl L hL hw
/-- StoneSecretsModel.isDigit(I)Z -/
theorem am_r188 {d : Nat} {vs : List Value} {h : am_H} {r : am_R} (hl : (am_en vs).length ≤ 1) (L : am_L) (hL : am_en0 vs 1 = L) (hw : am_w d (Option.some FieldType.boolean) am_g188 0 L [] h (fun x => x = r)) : am_run (d + 1) 188 vs h = some r := am_run_w (k := 188) rfl rfl hl L hL hw
/-- StoneSecretsModel.isSignOf(I)Z -/
theorem am_r189 {d : Nat} {vs : List Value} {h : am_H} {r : am_R} (hl : (am_en vs).length ≤ 1) (L : am_L) (hL : am_en0 vs 1 = L) (hw : am_w d (Option.some FieldType.boolean) am_g189 0 L [] h (fun x => x = r)) : am_run (d + 1) 189 vs h = some r := am_run_w (k := 189) rfl rfl hl L hL hw
/-- StoneSecretsModel.readLine()V -/
theorem am_r190 {d : Nat} {vs : List Value} {h : am_H} {r : am_R} (hl : (am_en vs).length ≤ 4) (L : am_L) (hL : am_en0 vs 4 = L) (hw : am_w d (Option.none : Option FieldType) am_g190 0 L [] h (fun x => x = r)) : am_run (d + 1) 190 vs h = some r := am_run_w (k := 190) rfl rfl hl L hL hw
/-- StoneSecretsModel.isWord(I)Z -/
theorem am_r191 {d : Nat} {vs : List Value} {h : am_H} {r : am_R} (hl : (am_en vs).length ≤ 2) (L : am_L) (hL : am_en0 vs 2 = L) (hw : am_w d (Option.some FieldType.boolean) am_g191 0 L [] h (fun x => x = r)) : am_run (d + 1) 191 vs h = some r := am_run_w (k := 191) rfl rfl hl L hL hw
/-- StoneSecretsModel.readSoul()V -/
theorem am_r192 {d : Nat} {vs : List Value} {h : am_H} {r : am_R} (hl : (am_en vs).length ≤ 5) (L : am_L) (hL : am_en0 vs 5 = L) (hw : am_w d (Option.none : Option FieldType) am_g192 0 L [] h (fun x => x = r)) : am_run (d + 1) 192 vs h = some r := am_run_w (k := 192) rfl rfl hl L hL hw
/-- StoneSecretsModel.wrong(I)V -/
theorem am_r193 {d : Nat} {vs : List Value} {h : am_H} {r : am_R} (hl : (am_en vs).length ≤ 2) (L : am_L) (hL : am_en0 vs 2 = L) (hw : am_w d (Option.none : Option FieldType) am_g193 0 L [] h (fun x => x = r)) : am_run (d + 1) 193 vs h = some r := am_run_w (k := 193) rfl rfl hl L hL hw
/-- StoneSecretsModel.isName()Z -/
theorem am_r194 {d : Nat} {vs : List Value} {h : am_H} {r : am_R} (hl : (am_en vs).length ≤ 1) (L : am_L) (hL : am_en0 vs 1 = L) (hw : am_w d (Option.some FieldType.boolean) am_g194 0 L [] h (fun x => x = r)) : am_run (d + 1) 194 vs h = some r := am_run_w (k := 194) rfl rfl hl L hL hw
/-- StoneSecretsModel.wordHere(II)I -/
theorem am_r195 {d : Nat} {vs : List Value} {h : am_H} {r : am_R} (hl : (am_en vs).length ≤ 5) (L : am_L) (hL : am_en0 vs 5 = L) (hw : am_w d (Option.some FieldType.int) am_g195 0 L [] h (fun x => x = r)) : am_run (d + 1) 195 vs h = some r := am_run_w (k := 195) rfl rfl hl L hL hw
/-- StoneSecretsModel.nameAt(II)I -/
theorem am_r196 {d : Nat} {vs : List Value} {h : am_H} {r : am_R} (hl : (am_en vs).length ≤ 5) (L : am_L) (hL : am_en0 vs 5 = L) (hw : am_w d (Option.some FieldType.int) am_g196 0 L [] h (fun x => x = r)) : am_run (d + 1) 196 vs h = some r := am_run_w (k := 196) rfl rfl hl L hL hw
/-- StoneSecretsModel.takeOne(II)I -/
theorem am_r197 {d : Nat} {vs : List Value} {h : am_H} {r : am_R} (hl : (am_en vs).length ≤ 4) (L : am_L) (hL : am_en0 vs 4 = L) (hw : am_w d (Option.some FieldType.int) am_g197 0 L [] h (fun x => x = r)) : am_run (d + 1) 197 vs h = some r := am_run_w (k := 197) rfl rfl hl L hL hw
/-- StoneSecretsModel.takeAfter(III)I -/
theorem am_r198 {d : Nat} {vs : List Value} {h : am_H} {r : am_R} (hl : (am_en vs).length ≤ 4) (L : am_L) (hL : am_en0 vs 4 = L) (hw : am_w d (Option.some FieldType.int) am_g198 0 L [] h (fun x => x = r)) : am_run (d + 1) 198 vs h = some r := am_run_w (k := 198) rfl rfl hl L hL hw
/-- StoneSecretsModel.takeWord(I)V -/
theorem am_r199 {d : Nat} {vs : List Value} {h : am_H} {r : am_R} (hl : (am_en vs).length ≤ 2) (L : am_L) (hL : am_en0 vs 2 = L) (hw : am_w d (Option.none : Option FieldType) am_g199 0 L [] h (fun x => x = r)) : am_run (d + 1) 199 vs h = some r := am_run_w (k := 199) rfl rfl hl L hL hw
/-- StoneSecretsModel.hasWord(I)Z -/
theorem am_r200 {d : Nat} {vs : List Value} {h : am_H} {r : am_R} (hl : (am_en vs).length ≤ 3) (L : am_L) (hL : am_en0 vs 3 = L) (hw : am_w d (Option.some FieldType.boolean) am_g200 0 L [] h (fun x => x = r)) : am_run (d + 1) 200 vs h = some r := am_run_w (k := 200) rfl rfl hl L hL hw
/-- StoneSecretsModel.takeNumber(II)I -/
theorem am_r201 {d : Nat} {vs : List Value} {h : am_H} {r : am_R} (hl : (am_en vs).length ≤ 3) (L : am_L) (hL : am_en0 vs 3 = L) (hw : am_w d (Option.some FieldType.int) am_g201 0 L [] h (fun x => x = r)) : am_run (d + 1) 201 vs h = some r := am_run_w (k := 201) rfl rfl hl L hL hw
/-- StoneSecretsModel.takeTold(III)I -/
theorem am_r202 {d : Nat} {vs : List Value} {h : am_H} {r : am_R} (hl : (am_en vs).length ≤ 5) (L : am_L) (hL : am_en0 vs 5 = L) (hw : am_w d (Option.some FieldType.int) am_g202 0 L [] h (fun x => x = r)) : am_run (d + 1) 202 vs h = some r := am_run_w (k := 202) rfl rfl hl L hL hw
/-- StoneSecretsModel.isOnce(I)Z -/
theorem am_r203 {d : Nat} {vs : List Value} {h : am_H} {r : am_R} (hl : (am_en vs).length ≤ 2) (L : am_L) (hL : am_en0 vs 2 = L) (hw : am_w d (Option.some FieldType.boolean) am_g203 0 L [] h (fun x => x = r)) : am_run (d + 1) 203 vs h = some r := am_run_w (k := 203) rfl rfl hl L hL hw
/-- StoneSecretsModel.readFrosts()V -/
theorem am_r204 {d : Nat} {vs : List Value} {h : am_H} {r : am_R} (hl : (am_en vs).length ≤ 3) (L : am_L) (hL : am_en0 vs 3 = L) (hw : am_w d (Option.none : Option FieldType) am_g204 0 L [] h (fun x => x = r)) : am_run (d + 1) 204 vs h = some r := am_run_w (k := 204) rfl rfl hl L hL hw
/-- StoneSecretsModel.whole(I)V -/
theorem am_r205 {d : Nat} {vs : List Value} {h : am_H} {r : am_R} (hl : (am_en vs).length ≤ 3) (L : am_L) (hL : am_en0 vs 3 = L) (hw : am_w d (Option.none : Option FieldType) am_g205 0 L [] h (fun x => x = r)) : am_run (d + 1) 205 vs h = some r := am_run_w (k := 205) rfl rfl hl L hL hw
/-- StoneSecretsModel.test(I)V -/
theorem am_r206 {d : Nat} {vs : List Value} {h : am_H} {r : am_R} (hl : (am_en vs).length ≤ 3) (L : am_L) (hL : am_en0 vs 3 = L) (hw : am_w d (Option.none : Option FieldType) am_g206 0 L [] h (fun x => x = r)) : am_run (d + 1) 206 vs h = some r := am_run_w (k := 206) rfl rfl hl L hL hw
/-- StoneSecretsModel.sums(I)V -/
theorem am_r207 {d : Nat} {vs : List Value} {h : am_H} {r : am_R} (hl : (am_en vs).length ≤ 3) (L : am_L) (hL : am_en0 vs 3 = L) (hw : am_w d (Option.none : Option FieldType) am_g207 0 L [] h (fun x => x = r)) : am_run (d + 1) 207 vs h = some r := am_run_w (k := 207) rfl rfl hl L hL hw
/-- StoneSecretsModel.products(I)V -/
theorem am_r208 {d : Nat} {vs : List Value} {h : am_H} {r : am_R} (hl : (am_en vs).length ≤ 2) (L : am_L) (hL : am_en0 vs 2 = L) (hw : am_w d (Option.none : Option FieldType) am_g208 0 L [] h (fun x => x = r)) : am_run (d + 1) 208 vs h = some r := am_run_w (k := 208) rfl rfl hl L hL hw
/-- StoneSecretsModel.takePart(I)V -/
theorem am_r209 {d : Nat} {vs : List Value} {h : am_H} {r : am_R} (hl : (am_en vs).length ≤ 4) (L : am_L) (hL : am_en0 vs 4 = L) (hw : am_w d (Option.none : Option FieldType) am_g209 0 L [] h (fun x => x = r)) : am_run (d + 1) 209 vs h = some r := am_run_w (k := 209) rfl rfl hl L hL hw
/-- StoneSecretsModel.isSign(I)Z -/
theorem am_r210 {d : Nat} {vs : List Value} {h : am_H} {r : am_R} (hl : (am_en vs).length ≤ 2) (L : am_L) (hL : am_en0 vs 2 = L) (hw : am_w d (Option.some FieldType.boolean) am_g210 0 L [] h (fun x => x = r)) : am_run (d + 1) 210 vs h = some r := am_run_w (k := 210) rfl rfl hl L hL hw
/-- StoneSecretsModel.emit(II)V -/
theorem am_r211 {d : Nat} {vs : List Value} {h : am_H} {r : am_R} (hl : (am_en vs).length ≤ 3) (L : am_L) (hL : am_en0 vs 3 = L) (hw : am_w d (Option.none : Option FieldType) am_g211 0 L [] h (fun x => x = r)) : am_run (d + 1) 211 vs h = some r := am_run_w (k := 211) rfl rfl hl L hL hw
/-- StoneSecretsModel.hasSign(I)Z -/
theorem am_r212 {d : Nat} {vs : List Value} {h : am_H} {r : am_R} (hl : (am_en vs).length ≤ 3) (L : am_L) (hL : am_en0 vs 3 = L) (hw : am_w d (Option.some FieldType.boolean) am_g212 0 L [] h (fun x => x = r)) : am_run (d + 1) 212 vs h = some r := am_run_w (k := 212) rfl rfl hl L hL hw
/-- StoneSecretsModel.takeSign(I)V -/
theorem am_r213 {d : Nat} {vs : List Value} {h : am_H} {r : am_R} (hl : (am_en vs).length ≤ 2) (L : am_L) (hL : am_en0 vs 2 = L) (hw : am_w d (Option.none : Option FieldType) am_g213 0 L [] h (fun x => x = r)) : am_run (d + 1) 213 vs h = some r := am_run_w (k := 213) rfl rfl hl L hL hw
/-- StoneSecretsModel.year()I -/
theorem am_r214 {d : Nat} {vs : List Value} {h : am_H} {r : am_R} (hl : (am_en vs).length ≤ 4) (L : am_L) (hL : am_en0 vs 4 = L) (hw : am_w d (Option.some FieldType.int) am_g214 0 L [] h (fun x => x = r)) : am_run (d + 1) 214 vs h = some r := am_run_w (k := 214) rfl rfl hl L hL hw
/-- StoneSecretsModel.souls()I -/
theorem am_r215 {d : Nat} {vs : List Value} {h : am_H} {r : am_R} (hl : (am_en vs).length ≤ 1) (L : am_L) (hL : am_en0 vs 1 = L) (hw : am_w d (Option.some FieldType.int) am_g215 0 L [] h (fun x => x = r)) : am_run (d + 1) 215 vs h = some r := am_run_w (k := 215) rfl rfl hl L hL hw
/-- StoneSecretsModel.places()I -/
theorem am_r216 {d : Nat} {vs : List Value} {h : am_H} {r : am_R} (hl : (am_en vs).length ≤ 1) (L : am_L) (hL : am_en0 vs 1 = L) (hw : am_w d (Option.some FieldType.int) am_g216 0 L [] h (fun x => x = r)) : am_run (d + 1) 216 vs h = some r := am_run_w (k := 216) rfl rfl hl L hL hw
/-- StoneSecretsModel.soul(II)I -/
theorem am_r217 {d : Nat} {vs : List Value} {h : am_H} {r : am_R} (hl : (am_en vs).length ≤ 3) (L : am_L) (hL : am_en0 vs 3 = L) (hw : am_w d (Option.some FieldType.int) am_g217 0 L [] h (fun x => x = r)) : am_run (d + 1) 217 vs h = some r := am_run_w (k := 217) rfl rfl hl L hL hw
/-- StoneSecretsModel.isSoul(I)Z -/
theorem am_r218 {d : Nat} {vs : List Value} {h : am_H} {r : am_R} (hl : (am_en vs).length ≤ 2) (L : am_L) (hL : am_en0 vs 2 = L) (hw : am_w d (Option.some FieldType.boolean) am_g218 0 L [] h (fun x => x = r)) : am_run (d + 1) 218 vs h = some r := am_run_w (k := 218) rfl rfl hl L hL hw
/-- StoneSecretsModel.within(III)Z -/
theorem am_r219 {d : Nat} {vs : List Value} {h : am_H} {r : am_R} (hl : (am_en vs).length ≤ 3) (L : am_L) (hL : am_en0 vs 3 = L) (hw : am_w d (Option.some FieldType.boolean) am_g219 0 L [] h (fun x => x = r)) : am_run (d + 1) 219 vs h = some r := am_run_w (k := 219) rfl rfl hl L hL hw
/-- StoneSecretsModel.soulOf(II)I -/
theorem am_r220 {d : Nat} {vs : List Value} {h : am_H} {r : am_R} (hl : (am_en vs).length ≤ 3) (L : am_L) (hL : am_en0 vs 3 = L) (hw : am_w d (Option.some FieldType.int) am_g220 0 L [] h (fun x => x = r)) : am_run (d + 1) 220 vs h = some r := am_run_w (k := 220) rfl rfl hl L hL hw
/-- StoneSecretsModel.weightOf(I)I -/
theorem am_r221 {d : Nat} {vs : List Value} {h : am_H} {r : am_R} (hl : (am_en vs).length ≤ 3) (L : am_L) (hL : am_en0 vs 3 = L) (hw : am_w d (Option.some FieldType.int) am_g221 0 L [] h (fun x => x = r)) : am_run (d + 1) 221 vs h = some r := am_run_w (k := 221) rfl rfl hl L hL hw
/-- StoneSecretsModel.isNow(II)I -/
theorem am_r222 {d : Nat} {vs : List Value} {h : am_H} {r : am_R} (hl : (am_en vs).length ≤ 3) (L : am_L) (hL : am_en0 vs 3 = L) (hw : am_w d (Option.some FieldType.int) am_g222 0 L [] h (fun x => x = r)) : am_run (d + 1) 222 vs h = some r := am_run_w (k := 222) rfl rfl hl L hL hw
/-- StoneSecretsModel.stands(I)I -/
theorem am_r223 {d : Nat} {vs : List Value} {h : am_H} {r : am_R} (hl : (am_en vs).length ≤ 2) (L : am_L) (hL : am_en0 vs 2 = L) (hw : am_w d (Option.some FieldType.int) am_g223 0 L [] h (fun x => x = r)) : am_run (d + 1) 223 vs h = some r := am_run_w (k := 223) rfl rfl hl L hL hw
/-- StoneSecretsModel.isPlace(I)Z -/
theorem am_r224 {d : Nat} {vs : List Value} {h : am_H} {r : am_R} (hl : (am_en vs).length ≤ 2) (L : am_L) (hL : am_en0 vs 2 = L) (hw : am_w d (Option.some FieldType.boolean) am_g224 0 L [] h (fun x => x = r)) : am_run (d + 1) 224 vs h = some r := am_run_w (k := 224) rfl rfl hl L hL hw
/-- StoneSecretsModel.whoAt(II)I -/
theorem am_r225 {d : Nat} {vs : List Value} {h : am_H} {r : am_R} (hl : (am_en vs).length ≤ 5) (L : am_L) (hL : am_en0 vs 5 = L) (hw : am_w d (Option.some FieldType.int) am_g225 0 L [] h (fun x => x = r)) : am_run (d + 1) 225 vs h = some r := am_run_w (k := 225) rfl rfl hl L hL hw
/-- StoneSecretsModel.tell(I)Z -/
theorem am_r226 {d : Nat} {vs : List Value} {h : am_H} {r : am_R} (hl : (am_en vs).length ≤ 2) (L : am_L) (hL : am_en0 vs 2 = L) (hw : am_w d (Option.some FieldType.boolean) am_g226 0 L [] h (fun x => x = r)) : am_run (d + 1) 226 vs h = some r := am_run_w (k := 226) rfl rfl hl L hL hw
/-- StoneSecretsModel.keeps()V -/
theorem am_r227 {d : Nat} {vs : List Value} {h : am_H} {r : am_R} (hl : (am_en vs).length ≤ 2) (L : am_L) (hL : am_en0 vs 2 = L) (hw : am_w d (Option.none : Option FieldType) am_g227 0 L [] h (fun x => x = r)) : am_run (d + 1) 227 vs h = some r := am_run_w (k := 227) rfl rfl hl L hL hw
/-- StoneSecretsModel.copies(III)V -/
theorem am_r228 {d : Nat} {vs : List Value} {h : am_H} {r : am_R} (hl : (am_en vs).length ≤ 5) (L : am_L) (hL : am_en0 vs 5 = L) (hw : am_w d (Option.none : Option FieldType) am_g228 0 L [] h (fun x => x = r)) : am_run (d + 1) 228 vs h = some r := am_run_w (k := 228) rfl rfl hl L hL hw
/-- StoneSecretsModel.leave(III)V -/
theorem am_r229 {d : Nat} {vs : List Value} {h : am_H} {r : am_R} (hl : (am_en vs).length ≤ 4) (L : am_L) (hL : am_en0 vs 4 = L) (hw : am_w d (Option.none : Option FieldType) am_g229 0 L [] h (fun x => x = r)) : am_run (d + 1) 229 vs h = some r := am_run_w (k := 229) rfl rfl hl L hL hw
/-- StoneSecretsModel.sets(II)Z -/
theorem am_r230 {d : Nat} {vs : List Value} {h : am_H} {r : am_R} (hl : (am_en vs).length ≤ 3) (L : am_L) (hL : am_en0 vs 3 = L) (hw : am_w d (Option.some FieldType.boolean) am_g230 0 L [] h (fun x => x = r)) : am_run (d + 1) 230 vs h = some r := am_run_w (k := 230) rfl rfl hl L hL hw
/-- StoneSecretsModel.isLoose(II)Z -/
theorem am_r231 {d : Nat} {vs : List Value} {h : am_H} {r : am_R} (hl : (am_en vs).length ≤ 3) (L : am_L) (hL : am_en0 vs 3 = L) (hw : am_w d (Option.some FieldType.boolean) am_g231 0 L [] h (fun x => x = r)) : am_run (d + 1) 231 vs h = some r := am_run_w (k := 231) rfl rfl hl L hL hw
/-- StoneSecretsModel.mayStand(III)Z -/
theorem am_r232 {d : Nat} {vs : List Value} {h : am_H} {r : am_R} (hl : (am_en vs).length ≤ 4) (L : am_L) (hL : am_en0 vs 4 = L) (hw : am_w d (Option.some FieldType.boolean) am_g232 0 L [] h (fun x => x = r)) : am_run (d + 1) 232 vs h = some r := am_run_w (k := 232) rfl rfl hl L hL hw
/-- StoneSecretsModel.besideOf(II)I -/
theorem am_r233 {d : Nat} {vs : List Value} {h : am_H} {r : am_R} (hl : (am_en vs).length ≤ 5) (L : am_L) (hL : am_en0 vs 5 = L) (hw : am_w d (Option.some FieldType.int) am_g233 0 L [] h (fun x => x = r)) : am_run (d + 1) 233 vs h = some r := am_run_w (k := 233) rfl rfl hl L hL hw
/-- StoneSecretsModel.hurtBy(I)I -/
theorem am_r234 {d : Nat} {vs : List Value} {h : am_H} {r : am_R} (hl : (am_en vs).length ≤ 4) (L : am_L) (hL : am_en0 vs 4 = L) (hw : am_w d (Option.some FieldType.int) am_g234 0 L [] h (fun x => x = r)) : am_run (d + 1) 234 vs h = some r := am_run_w (k := 234) rfl rfl hl L hL hw
/-- StoneSecretsModel.stand(III)V -/
theorem am_r235 {d : Nat} {vs : List Value} {h : am_H} {r : am_R} (hl : (am_en vs).length ≤ 4) (L : am_L) (hL : am_en0 vs 4 = L) (hw : am_w d (Option.none : Option FieldType) am_g235 0 L [] h (fun x => x = r)) : am_run (d + 1) 235 vs h = some r := am_run_w (k := 235) rfl rfl hl L hL hw
/-- StoneSecretsModel.take(I)I -/
theorem am_r236 {d : Nat} {vs : List Value} {h : am_H} {r : am_R} (hl : (am_en vs).length ≤ 3) (L : am_L) (hL : am_en0 vs 3 = L) (hw : am_w d (Option.some FieldType.int) am_g236 0 L [] h (fun x => x = r)) : am_run (d + 1) 236 vs h = some r := am_run_w (k := 236) rfl rfl hl L hL hw
/-- StoneSecretsModel.week()I -/
theorem am_r237 {d : Nat} {vs : List Value} {h : am_H} {r : am_R} (hl : (am_en vs).length ≤ 1) (L : am_L) (hL : am_en0 vs 1 = L) (hw : am_w d (Option.some FieldType.int) am_g237 0 L [] h (fun x => x = r)) : am_run (d + 1) 237 vs h = some r := am_run_w (k := 237) rfl rfl hl L hL hw
/-- StoneSecretsModel.goes(I)I -/
theorem am_r238 {d : Nat} {vs : List Value} {h : am_H} {r : am_R} (hl : (am_en vs).length ≤ 2) (L : am_L) (hL : am_en0 vs 2 = L) (hw : am_w d (Option.some FieldType.int) am_g238 0 L [] h (fun x => x = r)) : am_run (d + 1) 238 vs h = some r := am_run_w (k := 238) rfl rfl hl L hL hw
/-- StoneSecretsModel.frostAt(I)I -/
theorem am_r239 {d : Nat} {vs : List Value} {h : am_H} {r : am_R} (hl : (am_en vs).length ≤ 2) (L : am_L) (hL : am_en0 vs 2 = L) (hw : am_w d (Option.some FieldType.int) am_g239 0 L [] h (fun x => x = r)) : am_run (d + 1) 239 vs h = some r := am_run_w (k := 239) rfl rfl hl L hL hw
/-- StoneSecretsModel.passes(II)I -/
theorem am_r240 {d : Nat} {vs : List Value} {h : am_H} {r : am_R} (hl : (am_en vs).length ≤ 6) (L : am_L) (hL : am_en0 vs 6 = L) (hw : am_w d (Option.some FieldType.int) am_g240 0 L [] h (fun x => x = r)) : am_run (d + 1) 240 vs h = some r := am_run_w (k := 240) rfl rfl hl L hL hw
/-- StoneSecretsModel.doesFall(III)Z -/
theorem am_r241 {d : Nat} {vs : List Value} {h : am_H} {r : am_R} (hl : (am_en vs).length ≤ 4) (L : am_L) (hL : am_en0 vs 4 = L) (hw : am_w d (Option.some FieldType.boolean) am_g241 0 L [] h (fun x => x = r)) : am_run (d + 1) 241 vs h = some r := am_run_w (k := 241) rfl rfl hl L hL hw
/-- StoneSecretsModel.bits(I)I -/
theorem am_r242 {d : Nat} {vs : List Value} {h : am_H} {r : am_R} (hl : (am_en vs).length ≤ 3) (L : am_L) (hL : am_en0 vs 3 = L) (hw : am_w d (Option.some FieldType.int) am_g242 0 L [] h (fun x => x = r)) : am_run (d + 1) 242 vs h = some r := am_run_w (k := 242) rfl rfl hl L hL hw
/-- StoneSecretsModel.worthAt(I)I -/
theorem am_r243 {d : Nat} {vs : List Value} {h : am_H} {r : am_R} (hl : (am_en vs).length ≤ 5) (L : am_L) (hL : am_en0 vs 5 = L) (hw : am_w d (Option.some FieldType.int) am_g243 0 L [] h (fun x => x = r)) : am_run (d + 1) 243 vs h = some r := am_run_w (k := 243) rfl rfl hl L hL hw
/-- StoneSecretsModel.worked(III)I -/
theorem am_r244 {d : Nat} {vs : List Value} {h : am_H} {r : am_R} (hl : (am_en vs).length ≤ 3) (L : am_L) (hL : am_en0 vs 3 = L) (hw : am_w d (Option.some FieldType.int) am_g244 0 L [] h (fun x => x = r)) : am_run (d + 1) 244 vs h = some r := am_run_w (k := 244) rfl rfl hl L hL hw
/-- StoneSecretsModel.undo()Z -/
theorem am_r245 {d : Nat} {vs : List Value} {h : am_H} {r : am_R} (hl : (am_en vs).length ≤ 1) (L : am_L) (hL : am_en0 vs 1 = L) (hw : am_w d (Option.some FieldType.boolean) am_g245 0 L [] h (fun x => x = r)) : am_run (d + 1) 245 vs h = some r := am_run_w (k := 245) rfl rfl hl L hL hw
/-- StoneSecretsModel.judged(I)I -/
theorem am_r246 {d : Nat} {vs : List Value} {h : am_H} {r : am_R} (hl : (am_en vs).length ≤ 9) (L : am_L) (hL : am_en0 vs 9 = L) (hw : am_w d (Option.some FieldType.int) am_g246 0 L [] h (fun x => x = r)) : am_run (d + 1) 246 vs h = some r := am_run_w (k := 246) rfl rfl hl L hL hw
/-- StoneSecretsModel.who(II)I -/
theorem am_r247 {d : Nat} {vs : List Value} {h : am_H} {r : am_R} (hl : (am_en vs).length ≤ 5) (L : am_L) (hL : am_en0 vs 5 = L) (hw : am_w d (Option.some FieldType.int) am_g247 0 L [] h (fun x => x = r)) : am_run (d + 1) 247 vs h = some r := am_run_w (k := 247) rfl rfl hl L hL hw
/-- StoneSecretsModel.may(I)I -/
theorem am_r248 {d : Nat} {vs : List Value} {h : am_H} {r : am_R} (hl : (am_en vs).length ≤ 4) (L : am_L) (hL : am_en0 vs 4 = L) (hw : am_w d (Option.some FieldType.int) am_g248 0 L [] h (fun x => x = r)) : am_run (d + 1) 248 vs h = some r := am_run_w (k := 248) rfl rfl hl L hL hw
/-- StoneSecretsModel.falls(I)I -/
theorem am_r249 {d : Nat} {vs : List Value} {h : am_H} {r : am_R} (hl : (am_en vs).length ≤ 2) (L : am_L) (hL : am_en0 vs 2 = L) (hw : am_w d (Option.some FieldType.int) am_g249 0 L [] h (fun x => x = r)) : am_run (d + 1) 249 vs h = some r := am_run_w (k := 249) rfl rfl hl L hL hw
/-- StoneSecretsModel.becomes(II)I -/
theorem am_r250 {d : Nat} {vs : List Value} {h : am_H} {r : am_R} (hl : (am_en vs).length ≤ 4) (L : am_L) (hL : am_en0 vs 4 = L) (hw : am_w d (Option.some FieldType.int) am_g250 0 L [] h (fun x => x = r)) : am_run (d + 1) 250 vs h = some r := am_run_w (k := 250) rfl rfl hl L hL hw
/-- StoneSecretsModel.triesNow()V -/
theorem am_r251 {d : Nat} {vs : List Value} {h : am_H} {r : am_R} (hl : (am_en vs).length ≤ 1) (L : am_L) (hL : am_en0 vs 1 = L) (hw : am_w d (Option.none : Option FieldType) am_g251 0 L [] h (fun x => x = r)) : am_run (d + 1) 251 vs h = some r := am_run_w (k := 251) rfl rfl hl L hL hw
/-- StoneSecretsModel.blurts(I)I -/
theorem am_r252 {d : Nat} {vs : List Value} {h : am_H} {r : am_R} (hl : (am_en vs).length ≤ 2) (L : am_L) (hL : am_en0 vs 2 = L) (hw : am_w d (Option.some FieldType.int) am_g252 0 L [] h (fun x => x = r)) : am_run (d + 1) 252 vs h = some r := am_run_w (k := 252) rfl rfl hl L hL hw
/-- StoneSecretsModel.later(I)I -/
theorem am_r253 {d : Nat} {vs : List Value} {h : am_H} {r : am_R} (hl : (am_en vs).length ≤ 3) (L : am_L) (hL : am_en0 vs 3 = L) (hw : am_w d (Option.some FieldType.int) am_g253 0 L [] h (fun x => x = r)) : am_run (d + 1) 253 vs h = some r := am_run_w (k := 253) rfl rfl hl L hL hw
/-- StoneSecretsModel.bare()I -/
theorem am_r254 {d : Nat} {vs : List Value} {h : am_H} {r : am_R} (hl : (am_en vs).length ≤ 2) (L : am_L) (hL : am_en0 vs 2 = L) (hw : am_w d (Option.some FieldType.int) am_g254 0 L [] h (fun x => x = r)) : am_run (d + 1) 254 vs h = some r := am_run_w (k := 254) rfl rfl hl L hL hw
/-- StoneSecretsModel.first()I -/
theorem am_r255 {d : Nat} {vs : List Value} {h : am_H} {r : am_R} (hl : (am_en vs).length ≤ 4) (L : am_L) (hL : am_en0 vs 4 = L) (hw : am_w d (Option.some FieldType.int) am_g255 0 L [] h (fun x => x = r)) : am_run (d + 1) 255 vs h = some r := am_run_w (k := 255) rfl rfl hl L hL hw
/-- StoneSecretsModel.least(I)I -/
theorem am_r256 {d : Nat} {vs : List Value} {h : am_H} {r : am_R} (hl : (am_en vs).length ≤ 3) (L : am_L) (hL : am_en0 vs 3 = L) (hw : am_w d (Option.some FieldType.int) am_g256 0 L [] h (fun x => x = r)) : am_run (d + 1) 256 vs h = some r := am_run_w (k := 256) rfl rfl hl L hL hw
/-- StoneSecretsModel.ways()I -/
theorem am_r257 {d : Nat} {vs : List Value} {h : am_H} {r : am_R} (hl : (am_en vs).length ≤ 1) (L : am_L) (hL : am_en0 vs 1 = L) (hw : am_w d (Option.some FieldType.int) am_g257 0 L [] h (fun x => x = r)) : am_run (d + 1) 257 vs h = some r := am_run_w (k := 257) rfl rfl hl L hL hw
/-- StoneSecretsModel.gathers(I)V -/
theorem am_r258 {d : Nat} {vs : List Value} {h : am_H} {r : am_R} (hl : (am_en vs).length ≤ 3) (L : am_L) (hL : am_en0 vs 3 = L) (hw : am_w d (Option.none : Option FieldType) am_g258 0 L [] h (fun x => x = r)) : am_run (d + 1) 258 vs h = some r := am_run_w (k := 258) rfl rfl hl L hL hw
/-- StoneSecretsModel.lays(I)V -/
theorem am_r259 {d : Nat} {vs : List Value} {h : am_H} {r : am_R} (hl : (am_en vs).length ≤ 4) (L : am_L) (hL : am_en0 vs 4 = L) (hw : am_w d (Option.none : Option FieldType) am_g259 0 L [] h (fun x => x = r)) : am_run (d + 1) 259 vs h = some r := am_run_w (k := 259) rfl rfl hl L hL hw
/-- StoneSecretsModel.tells()V -/
theorem am_r260 {d : Nat} {vs : List Value} {h : am_H} {r : am_R} (hl : (am_en vs).length ≤ 2) (L : am_L) (hL : am_en0 vs 2 = L) (hw : am_w d (Option.none : Option FieldType) am_g260 0 L [] h (fun x => x = r)) : am_run (d + 1) 260 vs h = some r := am_run_w (k := 260) rfl rfl hl L hL hw
/-- StoneSecretsModel.leanNow()I -/
theorem am_r261 {d : Nat} {vs : List Value} {h : am_H} {r : am_R} (hl : (am_en vs).length ≤ 3) (L : am_L) (hL : am_en0 vs 3 = L) (hw : am_w d (Option.some FieldType.int) am_g261 0 L [] h (fun x => x = r)) : am_run (d + 1) 261 vs h = some r := am_run_w (k := 261) rfl rfl hl L hL hw
/-- StoneSecretsModel.isAsSeen()Z -/
theorem am_r262 {d : Nat} {vs : List Value} {h : am_H} {r : am_R} (hl : (am_en vs).length ≤ 4) (L : am_L) (hL : am_en0 vs 4 = L) (hw : am_w d (Option.some FieldType.boolean) am_g262 0 L [] h (fun x => x = r)) : am_run (d + 1) 262 vs h = some r := am_run_w (k := 262) rfl rfl hl L hL hw
/-- StoneSecretsModel.weightAt(I)I -/
theorem am_r263 {d : Nat} {vs : List Value} {h : am_H} {r : am_R} (hl : (am_en vs).length ≤ 3) (L : am_L) (hL : am_en0 vs 3 = L) (hw : am_w d (Option.some FieldType.int) am_g263 0 L [] h (fun x => x = r)) : am_run (d + 1) 263 vs h = some r := am_run_w (k := 263) rfl rfl hl L hL hw
/-- StoneSecretsModel.way(II)I -/
theorem am_r264 {d : Nat} {vs : List Value} {h : am_H} {r : am_R} (hl : (am_en vs).length ≤ 3) (L : am_L) (hL : am_en0 vs 3 = L) (hw : am_w d (Option.some FieldType.int) am_g264 0 L [] h (fun x => x = r)) : am_run (d + 1) 264 vs h = some r := am_run_w (k := 264) rfl rfl hl L hL hw
/-- StoneSecretsModel.times(II)I -/
theorem am_r265 {d : Nat} {vs : List Value} {h : am_H} {r : am_R} (hl : (am_en vs).length ≤ 3) (L : am_L) (hL : am_en0 vs 3 = L) (hw : am_w d (Option.some FieldType.int) am_g265 0 L [] h (fun x => x = r)) : am_run (d + 1) 265 vs h = some r := am_run_w (k := 265) rfl rfl hl L hL hw
/-- StoneSecretsModel.sure(I)I -/
theorem am_r266 {d : Nat} {vs : List Value} {h : am_H} {r : am_R} (hl : (am_en vs).length ≤ 4) (L : am_L) (hL : am_en0 vs 4 = L) (hw : am_w d (Option.some FieldType.int) am_g266 0 L [] h (fun x => x = r)) : am_run (d + 1) 266 vs h = some r := am_run_w (k := 266) rfl rfl hl L hL hw
/-- StoneSecretsModel.best(II)I -/
theorem am_r267 {d : Nat} {vs : List Value} {h : am_H} {r : am_R} (hl : (am_en vs).length ≤ 3) (L : am_L) (hL : am_en0 vs 3 = L) (hw : am_w d (Option.some FieldType.int) am_g267 0 L [] h (fun x => x = r)) : am_run (d + 1) 267 vs h = some r := am_run_w (k := 267) rfl rfl hl L hL hw
/-- StoneSecretsModel.lean()I -/
theorem am_r268 {d : Nat} {vs : List Value} {h : am_H} {r : am_R} (hl : (am_en vs).length ≤ 1) (L : am_L) (hL : am_en0 vs 1 = L) (hw : am_w d (Option.some FieldType.int) am_g268 0 L [] h (fun x => x = r)) : am_run (d + 1) 268 vs h = some r := am_run_w (k := 268) rfl rfl hl L hL hw
/-- StoneSecretsModel.even(I)I -/
theorem am_r269 {d : Nat} {vs : List Value} {h : am_H} {r : am_R} (hl : (am_en vs).length ≤ 2) (L : am_L) (hL : am_en0 vs 2 = L) (hw : am_w d (Option.some FieldType.int) am_g269 0 L [] h (fun x => x = r)) : am_run (d + 1) 269 vs h = some r := am_run_w (k := 269) rfl rfl hl L hL hw
/-- StoneSecretsModel.fit()I -/
theorem am_r270 {d : Nat} {vs : List Value} {h : am_H} {r : am_R} (hl : (am_en vs).length ≤ 1) (L : am_L) (hL : am_en0 vs 1 = L) (hw : am_w d (Option.some FieldType.int) am_g270 0 L [] h (fun x => x = r)) : am_run (d + 1) 270 vs h = some r := am_run_w (k := 270) rfl rfl hl L hL hw
/-- StoneSecretsModel.look()I -/
theorem am_r271 {d : Nat} {vs : List Value} {h : am_H} {r : am_R} (hl : (am_en vs).length ≤ 6) (L : am_L) (hL : am_en0 vs 6 = L) (hw : am_w d (Option.some FieldType.int) am_g271 0 L [] h (fun x => x = r)) : am_run (d + 1) 271 vs h = some r := am_run_w (k := 271) rfl rfl hl L hL hw
/-- StoneSecretsModel.see(IIZ)Z -/
theorem am_r272 {d : Nat} {vs : List Value} {h : am_H} {r : am_R} (hl : (am_en vs).length ≤ 5) (L : am_L) (hL : am_en0 vs 5 = L) (hw : am_w d (Option.some FieldType.boolean) am_g272 0 L [] h (fun x => x = r)) : am_run (d + 1) 272 vs h = some r := am_run_w (k := 272) rfl rfl hl L hL hw
/-- StoneSecretsModel.most()I -/
theorem am_r273 {d : Nat} {vs : List Value} {h : am_H} {r : am_R} (hl : (am_en vs).length ≤ 1) (L : am_L) (hL : am_en0 vs 1 = L) (hw : am_w d (Option.some FieldType.int) am_g273 0 L [] h (fun x => x = r)) : am_run (d + 1) 273 vs h = some r := am_run_w (k := 273) rfl rfl hl L hL hw
/-- StoneSecretsModel.fullestNow()I -/
theorem am_r274 {d : Nat} {vs : List Value} {h : am_H} {r : am_R} (hl : (am_en vs).length ≤ 5) (L : am_L) (hL : am_en0 vs 5 = L) (hw : am_w d (Option.some FieldType.int) am_g274 0 L [] h (fun x => x = r)) : am_run (d + 1) 274 vs h = some r := am_run_w (k := 274) rfl rfl hl L hL hw
/-- StoneSecretsModel.couldAll(II)Z -/
theorem am_r275 {d : Nat} {vs : List Value} {h : am_H} {r : am_R} (hl : (am_en vs).length ≤ 7) (L : am_L) (hL : am_en0 vs 7 = L) (hw : am_w d (Option.some FieldType.boolean) am_g275 0 L [] h (fun x => x = r)) : am_run (d + 1) 275 vs h = some r := am_run_w (k := 275) rfl rfl hl L hL hw
/-- StoneSecretsModel.fullest()I -/
theorem am_r276 {d : Nat} {vs : List Value} {h : am_H} {r : am_R} (hl : (am_en vs).length ≤ 1) (L : am_L) (hL : am_en0 vs 1 = L) (hw : am_w d (Option.some FieldType.int) am_g276 0 L [] h (fun x => x = r)) : am_run (d + 1) 276 vs h = some r := am_run_w (k := 276) rfl rfl hl L hL hw
/-- StoneSecretsModel.clear()I -/
theorem am_r277 {d : Nat} {vs : List Value} {h : am_H} {r : am_R} (hl : (am_en vs).length ≤ 6) (L : am_L) (hL : am_en0 vs 6 = L) (hw : am_w d (Option.some FieldType.int) am_g277 0 L [] h (fun x => x = r)) : am_run (d + 1) 277 vs h = some r := am_run_w (k := 277) rfl rfl hl L hL hw
/-- StoneSecretsModel.grudges(I)I -/
theorem am_r278 {d : Nat} {vs : List Value} {h : am_H} {r : am_R} (hl : (am_en vs).length ≤ 2) (L : am_L) (hL : am_en0 vs 2 = L) (hw : am_w d (Option.some FieldType.int) am_g278 0 L [] h (fun x => x = r)) : am_run (d + 1) 278 vs h = some r := am_run_w (k := 278) rfl rfl hl L hL hw
/-- StoneSecretsModel.colours()I -/
theorem am_r279 {d : Nat} {vs : List Value} {h : am_H} {r : am_R} (hl : (am_en vs).length ≤ 1) (L : am_L) (hL : am_en0 vs 1 = L) (hw : am_w d (Option.some FieldType.int) am_g279 0 L [] h (fun x => x = r)) : am_run (d + 1) 279 vs h = some r := am_run_w (k := 279) rfl rfl hl L hL hw
/-- StoneSecretsModel.coloursNow()I -/
theorem am_r280 {d : Nat} {vs : List Value} {h : am_H} {r : am_R} (hl : (am_en vs).length ≤ 2) (L : am_L) (hL : am_en0 vs 2 = L) (hw : am_w d (Option.some FieldType.int) am_g280 0 L [] h (fun x => x = r)) : am_run (d + 1) 280 vs h = some r := am_run_w (k := 280) rfl rfl hl L hL hw
/-- StoneSecretsModel.paints(II)Z -/
theorem am_r281 {d : Nat} {vs : List Value} {h : am_H} {r : am_R} (hl : (am_en vs).length ≤ 6) (L : am_L) (hL : am_en0 vs 6 = L) (hw : am_w d (Option.some FieldType.boolean) am_g281 0 L [] h (fun x => x = r)) : am_run (d + 1) 281 vs h = some r := am_run_w (k := 281) rfl rfl hl L hL hw
/-- StoneSecretsModel.colour(I)I -/
theorem am_r282 {d : Nat} {vs : List Value} {h : am_H} {r : am_R} (hl : (am_en vs).length ≤ 2) (L : am_L) (hL : am_en0 vs 2 = L) (hw : am_w d (Option.some FieldType.int) am_g282 0 L [] h (fun x => x = r)) : am_run (d + 1) 282 vs h = some r := am_run_w (k := 282) rfl rfl hl L hL hw
/-- StoneSecretsModel.feud()I -/
theorem am_r283 {d : Nat} {vs : List Value} {h : am_H} {r : am_R} (hl : (am_en vs).length ≤ 1) (L : am_L) (hL : am_en0 vs 1 = L) (hw : am_w d (Option.some FieldType.int) am_g283 0 L [] h (fun x => x = r)) : am_run (d + 1) 283 vs h = some r := am_run_w (k := 283) rfl rfl hl L hL hw
/-- StoneSecretsModel.mostOf(Z)I -/
theorem am_r284 {d : Nat} {vs : List Value} {h : am_H} {r : am_R} (hl : (am_en vs).length ≤ 7) (L : am_L) (hL : am_en0 vs 7 = L) (hw : am_w d (Option.some FieldType.int) am_g284 0 L [] h (fun x => x = r)) : am_run (d + 1) 284 vs h = some r := am_run_w (k := 284) rfl rfl hl L hL hw
/-- StoneSecretsModel.notOut()I -/
theorem am_r285 {d : Nat} {vs : List Value} {h : am_H} {r : am_R} (hl : (am_en vs).length ≤ 1) (L : am_L) (hL : am_en0 vs 1 = L) (hw : am_w d (Option.some FieldType.int) am_g285 0 L [] h (fun x => x = r)) : am_run (d + 1) 285 vs h = some r := am_run_w (k := 285) rfl rfl hl L hL hw
/-- StoneSecretsModel.calm()I -/
theorem am_r286 {d : Nat} {vs : List Value} {h : am_H} {r : am_R} (hl : (am_en vs).length ≤ 1) (L : am_L) (hL : am_en0 vs 1 = L) (hw : am_w d (Option.some FieldType.int) am_g286 0 L [] h (fun x => x = r)) : am_run (d + 1) 286 vs h = some r := am_run_w (k := 286) rfl rfl hl L hL hw
/-- StoneSecretsModel.load()I -/
theorem am_r287 {d : Nat} {vs : List Value} {h : am_H} {r : am_R} (hl : (am_en vs).length ≤ 3) (L : am_L) (hL : am_en0 vs 3 = L) (hw : am_w d (Option.some FieldType.int) am_g287 0 L [] h (fun x => x = r)) : am_run (d + 1) 287 vs h = some r := am_run_w (k := 287) rfl rfl hl L hL hw
/-- StoneSecretsModel.gaps()I -/
theorem am_r288 {d : Nat} {vs : List Value} {h : am_H} {r : am_R} (hl : (am_en vs).length ≤ 3) (L : am_L) (hL : am_en0 vs 3 = L) (hw : am_w d (Option.some FieldType.int) am_g288 0 L [] h (fun x => x = r)) : am_run (d + 1) 288 vs h = some r := am_run_w (k := 288) rfl rfl hl L hL hw
/-- StoneSecretsModel.widest()I -/
theorem am_r289 {d : Nat} {vs : List Value} {h : am_H} {r : am_R} (hl : (am_en vs).length ≤ 4) (L : am_L) (hL : am_en0 vs 4 = L) (hw : am_w d (Option.some FieldType.int) am_g289 0 L [] h (fun x => x = r)) : am_run (d + 1) 289 vs h = some r := am_run_w (k := 289) rfl rfl hl L hL hw
/-- StoneSecretsModel.heavy()I -/
theorem am_r290 {d : Nat} {vs : List Value} {h : am_H} {r : am_R} (hl : (am_en vs).length ≤ 3) (L : am_L) (hL : am_en0 vs 3 = L) (hw : am_w d (Option.some FieldType.int) am_g290 0 L [] h (fun x => x = r)) : am_run (d + 1) 290 vs h = some r := am_run_w (k := 290) rfl rfl hl L hL hw
/-- StoneSecretsModel.beside(I)I -/
theorem am_r291 {d : Nat} {vs : List Value} {h : am_H} {r : am_R} (hl : (am_en vs).length ≤ 2) (L : am_L) (hL : am_en0 vs 2 = L) (hw : am_w d (Option.some FieldType.int) am_g291 0 L [] h (fun x => x = r)) : am_run (d + 1) 291 vs h = some r := am_run_w (k := 291) rfl rfl hl L hL hw
/-- StoneSecretsModel.swaps()I -/
theorem am_r292 {d : Nat} {vs : List Value} {h : am_H} {r : am_R} (hl : (am_en vs).length ≤ 6) (L : am_L) (hL : am_en0 vs 6 = L) (hw : am_w d (Option.some FieldType.int) am_g292 0 L [] h (fun x => x = r)) : am_run (d + 1) 292 vs h = some r := am_run_w (k := 292) rfl rfl hl L hL hw
/-- StoneSecretsModel.like()I -/
theorem am_r293 {d : Nat} {vs : List Value} {h : am_H} {r : am_R} (hl : (am_en vs).length ≤ 4) (L : am_L) (hL : am_en0 vs 4 = L) (hw : am_w d (Option.some FieldType.int) am_g293 0 L [] h (fun x => x = r)) : am_run (d + 1) 293 vs h = some r := am_run_w (k := 293) rfl rfl hl L hL hw
/-- StoneSecretsModel.chance(III)I -/
theorem am_r294 {d : Nat} {vs : List Value} {h : am_H} {r : am_R} (hl : (am_en vs).length ≤ 13) (L : am_L) (hL : am_en0 vs 13 = L) (hw : am_w d (Option.some FieldType.int) am_g294 0 L [] h (fun x => x = r)) : am_run (d + 1) 294 vs h = some r := am_run_w (k := 294) rfl rfl hl L hL hw
/-- StoneSecretsModel.rests(IIII)I -/
theorem am_r295 {d : Nat} {vs : List Value} {h : am_H} {r : am_R} (hl : (am_en vs).length ≤ 12) (L : am_L) (hL : am_en0 vs 12 = L) (hw : am_w d (Option.some FieldType.int) am_g295 0 L [] h (fun x => x = r)) : am_run (d + 1) 295 vs h = some r := am_run_w (k := 295) rfl rfl hl L hL hw
/-- StoneSecretsModel.getsBy(IIIII)I -/
theorem am_r296 {d : Nat} {vs : List Value} {h : am_H} {r : am_R} (hl : (am_en vs).length ≤ 5) (L : am_L) (hL : am_en0 vs 5 = L) (hw : am_w d (Option.some FieldType.int) am_g296 0 L [] h (fun x => x = r)) : am_run (d + 1) 296 vs h = some r := am_run_w (k := 296) rfl rfl hl L hL hw
/-- StoneSecretsModel.centuries(III)I -/
theorem am_r297 {d : Nat} {vs : List Value} {h : am_H} {r : am_R} (hl : (am_en vs).length ≤ 6) (L : am_L) (hL : am_en0 vs 6 = L) (hw : am_w d (Option.some FieldType.int) am_g297 0 L [] h (fun x => x = r)) : am_run (d + 1) 297 vs h = some r := am_run_w (k := 297) rfl rfl hl L hL hw
/-- StoneSecretsModel.drawsDeed()V -/
theorem am_r298 {d : Nat} {vs : List Value} {h : am_H} {r : am_R} (hl : (am_en vs).length ≤ 4) (L : am_L) (hL : am_en0 vs 4 = L) (hw : am_w d (Option.none : Option FieldType) am_g298 0 L [] h (fun x => x = r)) : am_run (d + 1) 298 vs h = some r := am_run_w (k := 298) rfl rfl hl L hL hw
/-- StoneSecretsModel.draw(I)I -/
theorem am_r299 {d : Nat} {vs : List Value} {h : am_H} {r : am_R} (hl : (am_en vs).length ≤ 2) (L : am_L) (hL : am_en0 vs 2 = L) (hw : am_w d (Option.some FieldType.int) am_g299 0 L [] h (fun x => x = r)) : am_run (d + 1) 299 vs h = some r := am_run_w (k := 299) rfl rfl hl L hL hw
/-- StoneSecretsModel.mark(IZ)Z -/
theorem am_r300 {d : Nat} {vs : List Value} {h : am_H} {r : am_R} (hl : (am_en vs).length ≤ 3) (L : am_L) (hL : am_en0 vs 3 = L) (hw : am_w d (Option.some FieldType.boolean) am_g300 0 L [] h (fun x => x = r)) : am_run (d + 1) 300 vs h = some r := am_run_w (k := 300) rfl rfl hl L hL hw
/-- StoneSecretsModel.count(I)I -/
theorem am_r301 {d : Nat} {vs : List Value} {h : am_H} {r : am_R} (hl : (am_en vs).length ≤ 2) (L : am_L) (hL : am_en0 vs 2 = L) (hw : am_w d (Option.some FieldType.int) am_g301 0 L [] h (fun x => x = r)) : am_run (d + 1) 301 vs h = some r := am_run_w (k := 301) rfl rfl hl L hL hw
