/-! tables of the abstract machine: methods. A method: its name, bytes, room for variables, answer, class, instructions by their places -/
abbrev Mth : Type := MethodName × ByteArray × Nat × Option FieldType × Nat × List (Nat × List (Nat × Instr × Nat))
def q_y (m : Mth) : MethodName := m.1
def q_b (m : Mth) : ByteArray := m.2.1
def q_L (m : Mth) : Nat := m.2.2.1
def q_r (m : Mth) : Option FieldType := m.2.2.2.1
def q_o (m : Mth) : Nat := m.2.2.2.2.1
def q_c (m : Mth) : List (Nat × List (Nat × Instr × Nat)) := m.2.2.2.2.2
def q_at (m : Mth) (pc : Nat) : Option (Instr × Nat) := match q_lk (q_c m) (pc / 32) with
  | none => none
  | some l => q_lk l pc
def q_dec (m : Mth) : Prop := ∀ e ∈ q_c m, ∀ x ∈ e.2, decode (q_b m) x.1 = .ok x.2
def q_code (m : Mth) : Prop := Cond.code (q_y m) (q_b m) (q_L m) (q_r m) ∈ lw_tbl
def q_okm (m : Mth) : Prop := q_o m < 21 ∧ (q_y m).cls = q_cn (q_o m) ∧ plainName (q_y m).cls = true ∧ (q_y m).cls ≠ "java/lang/invoke/MethodHandle" ∧ (q_y m).cls ≠ "java/lang/invoke/VarHandle" ∧ q_L m ≤ 40
def m_Board_init : Mth := (⟨"LampWires$Board", "<init>", "()V"⟩, prog_2_method_1_code, 1, none, 0, [(0, [(0, .aload_n 0, 1), (1, .invokespecial 3, 3), (4, .aload_n 0, 1), (5, .iconst 4, 1), (6, .putfield 9, 3), (9, .aload_n 0, 1), (10, .iconst 5, 1), (11, .putfield 15, 3), (14, .aload_n 0, 1), (15, .bipush 16, 2), (17, .newarray .int, 2), (19, .putfield 18, 3), (22, .aload_n 0, 1), (23, .bipush 16, 2), (25, .newarray .int, 2), (27, .putfield 22, 3), (30, .aload_n 0, 1), (31, .bipush 16, 2)]), (1, [(33, .newarray .int, 2), (35, .putfield 25, 3), (38, .aload_n 0, 1), (39, .bipush 16, 2), (41, .newarray .int, 2), (43, .putfield 28, 3), (46, .aload_n 0, 1), (47, .bipush 16, 2), (49, .newarray .int, 2), (51, .putfield 31, 3), (54, .return_, 1)])])
set_option maxRecDepth 20000 in
theorem kd_Board_init : q_dec m_Board_init := by unfold q_dec; decide +kernel
theorem kc_Board_init : q_code m_Board_init := List.mem_of_getElem? (i := 113) (by decide +kernel)
theorem ko_Board_init : q_okm m_Board_init := by unfold q_okm; decide +kernel
def m_Board_restart : Mth := (⟨"LampWires$Board", "restart", "(I)V"⟩, prog_2_method_2_code, 2, none, 0, [(0, [(0, .aload_n 0, 1), (1, .iload_n 1, 1), (2, .putfield 9, 3), (5, .aload_n 0, 1), (6, .iconst 0, 1), (7, .putfield 34, 3), (10, .return_, 1)])])
set_option maxRecDepth 20000 in
theorem kd_Board_restart : q_dec m_Board_restart := by unfold q_dec; decide +kernel
theorem kc_Board_restart : q_code m_Board_restart := List.mem_of_getElem? (i := 530) (by decide +kernel)
theorem ko_Board_restart : q_okm m_Board_restart := by unfold q_okm; decide +kernel
def m_Board_add : Mth := (⟨"LampWires$Board", "add", "(III)I"⟩, prog_2_method_3_code, 5, some .int, 0, [(0, [(0, .aload_n 0, 1), (1, .getfield 34, 3), (4, .istore 4, 2), (6, .aload_n 0, 1), (7, .getfield 18, 3), (10, .iload 4, 2), (12, .iload_n 1, 1), (13, .iastore, 1), (14, .aload_n 0, 1), (15, .getfield 22, 3), (18, .iload 4, 2), (20, .iload_n 2, 1), (21, .iastore, 1), (22, .aload_n 0, 1), (23, .getfield 25, 3), (26, .iload 4, 2), (28, .iload_n 3, 1), (29, .iastore, 1), (30, .aload_n 0, 1), (31, .getfield 28, 3)]), (1, [(34, .iload 4, 2), (36, .iconst 0, 1), (37, .iastore, 1), (38, .aload_n 0, 1), (39, .getfield 31, 3), (42, .iload 4, 2), (44, .iconst 0, 1), (45, .iastore, 1), (46, .aload_n 0, 1), (47, .dup, 1), (48, .getfield 34, 3), (51, .iconst 1, 1), (52, .iadd, 1), (53, .putfield 34, 3), (56, .iload 4, 2), (58, .ireturn, 1)])])
set_option maxRecDepth 20000 in
theorem kd_Board_add : q_dec m_Board_add := by unfold q_dec; decide +kernel
theorem kc_Board_add : q_code m_Board_add := List.mem_of_getElem? (i := 566) (by decide +kernel)
theorem ko_Board_add : q_okm m_Board_add := by unfold q_okm; decide +kernel
def m_Board_find : Mth := (⟨"LampWires$Board", "find", "(II)I"⟩, prog_2_method_4_code, 4, some .int, 0, [(0, [(0, .iconst 0, 1), (1, .istore_n 3, 1), (2, .iload_n 3, 1), (3, .aload_n 0, 1), (4, .getfield 34, 3), (7, .if_icmp .ge 31, 3), (10, .aload_n 0, 1), (11, .getfield 18, 3), (14, .iload_n 3, 1), (15, .iaload, 1), (16, .iload_n 1, 1), (17, .if_icmp .ne 15, 3), (20, .aload_n 0, 1), (21, .getfield 22, 3), (24, .iload_n 3, 1), (25, .iaload, 1), (26, .iload_n 2, 1), (27, .if_icmp .ne 5, 3), (30, .iload_n 3, 1), (31, .ireturn, 1)]), (1, [(32, .iinc 3 1, 3), (35, .goto (-33), 3), (38, .bipush (-4), 2), (40, .ireturn, 1)])])
set_option maxRecDepth 20000 in
theorem kd_Board_find : q_dec m_Board_find := by unfold q_dec; decide +kernel
theorem kc_Board_find : q_code m_Board_find := List.mem_of_getElem? (i := 562) (by decide +kernel)
theorem ko_Board_find : q_okm m_Board_find := by unfold q_okm; decide +kernel
def m_Board_isWire : Mth := (⟨"LampWires$Board", "isWire", "(I)Z"⟩, prog_2_method_5_code, 2, some .boolean, 0, [(0, [(0, .iload_n 1, 1), (1, .ifCond .lt 15, 3), (4, .iload_n 1, 1), (5, .aload_n 0, 1), (6, .getfield 9, 3), (9, .if_icmp .ge 7, 3), (12, .iconst 1, 1), (13, .goto 4, 3), (16, .iconst 0, 1), (17, .ireturn, 1)])])
set_option maxRecDepth 20000 in
theorem kd_Board_isWire : q_dec m_Board_isWire := by unfold q_dec; decide +kernel
theorem kc_Board_isWire : q_code m_Board_isWire := List.mem_of_getElem? (i := 558) (by decide +kernel)
theorem ko_Board_isWire : q_okm m_Board_isWire := by unfold q_okm; decide +kernel
def m_Board_isPair : Mth := (⟨"LampWires$Board", "isPair", "(II)Z"⟩, prog_2_method_6_code, 3, some .boolean, 0, [(0, [(0, .aload_n 0, 1), (1, .iload_n 1, 1), (2, .invokevirtual 37, 3), (5, .ifCond .eq 20, 3), (8, .aload_n 0, 1), (9, .iload_n 2, 1), (10, .invokevirtual 37, 3), (13, .ifCond .eq 12, 3), (16, .iload_n 1, 1), (17, .iload_n 2, 1), (18, .if_icmp .eq 7, 3), (21, .iconst 1, 1), (22, .goto 4, 3), (25, .iconst 0, 1), (26, .ireturn, 1)])])
set_option maxRecDepth 20000 in
theorem kd_Board_isPair : q_dec m_Board_isPair := by unfold q_dec; decide +kernel
theorem kc_Board_isPair : q_code m_Board_isPair := List.mem_of_getElem? (i := 554) (by decide +kernel)
theorem ko_Board_isPair : q_okm m_Board_isPair := by unfold q_okm; decide +kernel
def m_Board_isLamp : Mth := (⟨"LampWires$Board", "isLamp", "(I)Z"⟩, prog_2_method_7_code, 2, some .boolean, 0, [(0, [(0, .iload_n 1, 1), (1, .ifCond .lt 15, 3), (4, .iload_n 1, 1), (5, .aload_n 0, 1), (6, .getfield 34, 3), (9, .if_icmp .ge 7, 3), (12, .iconst 1, 1), (13, .goto 4, 3), (16, .iconst 0, 1), (17, .ireturn, 1)])])
set_option maxRecDepth 20000 in
theorem kd_Board_isLamp : q_dec m_Board_isLamp := by unfold q_dec; decide +kernel
theorem kc_Board_isLamp : q_code m_Board_isLamp := List.mem_of_getElem? (i := 574) (by decide +kernel)
theorem ko_Board_isLamp : q_okm m_Board_isLamp := by unfold q_okm; decide +kernel
def m_Board_isTurn : Mth := (⟨"LampWires$Board", "isTurn", "(I)Z"⟩, prog_2_method_8_code, 2, some .boolean, 0, [(0, [(0, .iload_n 1, 1), (1, .ifCond .lt 19, 3), (4, .iload_n 1, 1), (5, .getstatic 41, 3), (8, .aload_n 0, 1), (9, .getfield 9, 3), (12, .iaload, 1), (13, .if_icmp .ge 7, 3), (16, .iconst 1, 1), (17, .goto 4, 3), (20, .iconst 0, 1), (21, .ireturn, 1)])])
set_option maxRecDepth 20000 in
theorem kd_Board_isTurn : q_dec m_Board_isTurn := by unfold q_dec; decide +kernel
theorem kc_Board_isTurn : q_code m_Board_isTurn := List.mem_of_getElem? (i := 590) (by decide +kernel)
theorem ko_Board_isTurn : q_okm m_Board_isTurn := by unfold q_okm; decide +kernel
def m_Board_isPicture : Mth := (⟨"LampWires$Board", "isPicture", "(I)Z"⟩, prog_2_method_9_code, 2, some .boolean, 0, [(0, [(0, .iload_n 1, 1), (1, .ifCond .lt 15, 3), (4, .iload_n 1, 1), (5, .aload_n 0, 1), (6, .invokevirtual 44, 3), (9, .if_icmp .gt 7, 3), (12, .iconst 1, 1), (13, .goto 4, 3), (16, .iconst 0, 1), (17, .ireturn, 1)])])
set_option maxRecDepth 20000 in
theorem kd_Board_isPicture : q_dec m_Board_isPicture := by unfold q_dec; decide +kernel
theorem kc_Board_isPicture : q_code m_Board_isPicture := List.mem_of_getElem? (i := 701) (by decide +kernel)
theorem ko_Board_isPicture : q_okm m_Board_isPicture := by unfold q_okm; decide +kernel
def m_Board_isFaultOrNone : Mth := (⟨"LampWires$Board", "isFaultOrNone", "(I)Z"⟩, prog_2_method_10_code, 2, some .boolean, 0, [(0, [(0, .iload_n 1, 1), (1, .bipush (-4), 2), (3, .if_icmp .eq 17, 3), (6, .iload_n 1, 1), (7, .ifCond .lt 17, 3), (10, .iload_n 1, 1), (11, .iconst 2, 1), (12, .aload_n 0, 1), (13, .getfield 34, 3), (16, .imul, 1), (17, .if_icmp .ge 7, 3), (20, .iconst 1, 1), (21, .goto 4, 3), (24, .iconst 0, 1), (25, .ireturn, 1)])])
set_option maxRecDepth 20000 in
theorem kd_Board_isFaultOrNone : q_dec m_Board_isFaultOrNone := by unfold q_dec; decide +kernel
theorem kc_Board_isFaultOrNone : q_code m_Board_isFaultOrNone := List.mem_of_getElem? (i := 1086) (by decide +kernel)
theorem ko_Board_isFaultOrNone : q_okm m_Board_isFaultOrNone := by unfold q_okm; decide +kernel
def m_Board_allLamps : Mth := (⟨"LampWires$Board", "allLamps", "()I"⟩, prog_2_method_11_code, 1, some .int, 0, [(0, [(0, .iconst 1, 1), (1, .aload_n 0, 1), (2, .getfield 34, 3), (5, .ishl, 1), (6, .iconst 1, 1), (7, .isub, 1), (8, .ireturn, 1)])])
set_option maxRecDepth 20000 in
theorem kd_Board_allLamps : q_dec m_Board_allLamps := by unfold q_dec; decide +kernel
theorem kc_Board_allLamps : q_code m_Board_allLamps := List.mem_of_getElem? (i := 705) (by decide +kernel)
theorem ko_Board_allLamps : q_okm m_Board_allLamps := by unfold q_okm; decide +kernel
def m_Board_plane : Mth := (⟨"LampWires$Board", "plane", "(I)I"⟩, prog_2_method_12_code, 4, some .int, 0, [(0, [(0, .iconst 0, 1), (1, .istore_n 2, 1), (2, .iconst 0, 1), (3, .istore_n 3, 1), (4, .iload_n 3, 1), (5, .aload_n 0, 1), (6, .getfield 34, 3), (9, .if_icmp .ge 24, 3), (12, .iload_n 2, 1), (13, .aload_n 0, 1), (14, .getfield 31, 3), (17, .iload_n 3, 1), (18, .iaload, 1), (19, .iload_n 1, 1), (20, .ishr, 1), (21, .iconst 1, 1), (22, .iand, 1), (23, .iload_n 3, 1), (24, .ishl, 1), (25, .ior, 1), (26, .istore_n 2, 1), (27, .iinc 3 1, 3), (30, .goto (-26), 3)]), (1, [(33, .iload_n 2, 1), (34, .ireturn, 1)])])
set_option maxRecDepth 20000 in
theorem kd_Board_plane : q_dec m_Board_plane := by unfold q_dec; decide +kernel
theorem kc_Board_plane : q_code m_Board_plane := List.mem_of_getElem? (i := 814) (by decide +kernel)
theorem ko_Board_plane : q_okm m_Board_plane := by unfold q_okm; decide +kernel
def m_Board_takeLevels : Mth := (⟨"LampWires$Board", "takeLevels", "(LLampWires$Sheet;I)I"⟩, prog_2_method_13_code, 6, some .int, 0, [(0, [(0, .iconst 0, 1), (1, .istore_n 3, 1), (2, .iconst 0, 1), (3, .istore 4, 2), (5, .iload 4, 2), (7, .aload_n 0, 1), (8, .getfield 34, 3), (11, .if_icmp .ge 44, 3), (14, .aload_n 1, 1), (15, .getfield 48, 3), (18, .iload_n 2, 1), (19, .iload 4, 2), (21, .iadd, 1), (22, .iaload, 1), (23, .istore 5, 2), (25, .aload_n 0, 1), (26, .getfield 31, 3), (29, .iload 4, 2), (31, .iaload, 1)]), (1, [(32, .iload 5, 2), (34, .if_icmp .eq 15, 3), (37, .aload_n 0, 1), (38, .getfield 31, 3), (41, .iload 4, 2), (43, .iload 5, 2), (45, .iastore, 1), (46, .iinc 3 1, 3), (49, .iinc 4 1, 3), (52, .goto (-47), 3), (55, .iload_n 3, 1), (56, .ireturn, 1)])])
set_option maxRecDepth 20000 in
theorem kd_Board_takeLevels : q_dec m_Board_takeLevels := by unfold q_dec; decide +kernel
theorem kc_Board_takeLevels : q_code m_Board_takeLevels := List.mem_of_getElem? (i := 1122) (by decide +kernel)
theorem ko_Board_takeLevels : q_okm m_Board_takeLevels := by unfold q_okm; decide +kernel
def m_Board_lampsThatAre : Mth := (⟨"LampWires$Board", "lampsThatAre", "(I)I"⟩, prog_2_method_14_code, 4, some .int, 0, [(0, [(0, .iconst 0, 1), (1, .istore_n 2, 1), (2, .iconst 0, 1), (3, .istore_n 3, 1), (4, .iload_n 3, 1), (5, .aload_n 0, 1), (6, .getfield 34, 3), (9, .if_icmp .ge 22, 3), (12, .aload_n 0, 1), (13, .getfield 28, 3), (16, .iload_n 3, 1), (17, .iaload, 1), (18, .iload_n 1, 1), (19, .if_icmp .ne 6, 3), (22, .iinc 2 1, 3), (25, .iinc 3 1, 3), (28, .goto (-24), 3), (31, .iload_n 2, 1)]), (1, [(32, .ireturn, 1)])])
set_option maxRecDepth 20000 in
theorem kd_Board_lampsThatAre : q_dec m_Board_lampsThatAre := by unfold q_dec; decide +kernel
theorem kc_Board_lampsThatAre : q_code m_Board_lampsThatAre := List.mem_of_getElem? (i := 1130) (by decide +kernel)
theorem ko_Board_lampsThatAre : q_okm m_Board_lampsThatAre := by unfold q_okm; decide +kernel
def m_Board_levelSum : Mth := (⟨"LampWires$Board", "levelSum", "()I"⟩, prog_2_method_15_code, 3, some .int, 0, [(0, [(0, .iconst 0, 1), (1, .istore_n 1, 1), (2, .iconst 0, 1), (3, .istore_n 2, 1), (4, .iload_n 2, 1), (5, .aload_n 0, 1), (6, .getfield 34, 3), (9, .if_icmp .ge 18, 3), (12, .iload_n 1, 1), (13, .aload_n 0, 1), (14, .getfield 31, 3), (17, .iload_n 2, 1), (18, .iaload, 1), (19, .iadd, 1), (20, .istore_n 1, 1), (21, .iinc 2 1, 3), (24, .goto (-20), 3), (27, .iload_n 1, 1), (28, .ireturn, 1)])])
set_option maxRecDepth 20000 in
theorem kd_Board_levelSum : q_dec m_Board_levelSum := by unfold q_dec; decide +kernel
theorem kc_Board_levelSum : q_code m_Board_levelSum := List.mem_of_getElem? (i := 1138) (by decide +kernel)
theorem ko_Board_levelSum : q_okm m_Board_levelSum := by unfold q_okm; decide +kernel
def m_Frame_init : Mth := (⟨"LampWires$Frame", "<init>", "()V"⟩, prog_3_method_1_code, 1, none, 1, [(0, [(0, .aload_n 0, 1), (1, .invokespecial 3, 3), (4, .aload_n 0, 1), (5, .bipush 16, 2), (7, .newarray .int, 2), (9, .putfield 9, 3), (12, .return_, 1)])])
set_option maxRecDepth 20000 in
theorem kd_Frame_init : q_dec m_Frame_init := by unfold q_dec; decide +kernel
theorem kc_Frame_init : q_code m_Frame_init := List.mem_of_getElem? (i := 262) (by decide +kernel)
theorem ko_Frame_init : q_okm m_Frame_init := by unfold q_okm; decide +kernel
def m_FrameFinder_init : Mth := (⟨"LampWires$FrameFinder", "<init>", "()V"⟩, prog_4_method_1_code, 1, none, 2, [(0, [(0, .aload_n 0, 1), (1, .invokespecial 3, 3), (4, .aload_n 0, 1), (5, .sipush 729, 3), (8, .newarray .int, 2), (10, .putfield 9, 3), (13, .return_, 1)])])
set_option maxRecDepth 20000 in
theorem kd_FrameFinder_init : q_dec m_FrameFinder_init := by unfold q_dec; decide +kernel
theorem kc_FrameFinder_init : q_code m_FrameFinder_init := List.mem_of_getElem? (i := 294) (by decide +kernel)
theorem ko_FrameFinder_init : q_okm m_FrameFinder_init := by unfold q_okm; decide +kernel
def m_FrameFinder_fill : Mth := (⟨"LampWires$FrameFinder", "fill", "(LLampWires$Frame;ILLampWires$TurnTable;[J)V"⟩, prog_4_method_2_code, 6, none, 2, [(0, [(0, .aload_n 0, 1), (1, .iload_n 2, 1), (2, .putfield 15, 3), (5, .aload_n 0, 1), (6, .aload 4, 2), (8, .putfield 19, 3), (11, .aload_n 1, 1), (12, .iload_n 2, 1), (13, .putfield 23, 3), (16, .aload_n 1, 1), (17, .iconst 1, 1), (18, .putfield 26, 3), (21, .aload_n 1, 1), (22, .bipush (-4), 2), (24, .putfield 30, 3), (27, .aload_n 0, 1), (28, .aload_n 3, 1), (29, .invokevirtual 33, 3)]), (1, [(32, .iload_n 2, 1), (33, .if_icmp .eq 4, 3), (36, .return_, 1), (37, .aload_n 0, 1), (38, .getfield 19, 3), (41, .lconst 0, 1), (42, .invokestatic 37, 3), (45, .iconst 0, 1), (46, .istore 5, 2), (48, .iload 5, 2), (50, .bipush 16, 2), (52, .if_icmp .ge 19, 3), (55, .aload_n 0, 1), (56, .iconst 0, 1), (57, .iload 5, 2), (59, .invokevirtual 43, 3), (62, .ifCond .ne 9, 3)]), (2, [(65, .iinc 5 1, 3), (68, .goto (-20), 3), (71, .aload_n 1, 1), (72, .iload 5, 2), (74, .putfield 30, 3), (77, .aload_n 0, 1), (78, .aload_n 1, 1), (79, .aload_n 3, 1), (80, .invokevirtual 47, 3), (83, .return_, 1)])])
set_option maxRecDepth 20000 in
theorem kd_FrameFinder_fill : q_dec m_FrameFinder_fill := by unfold q_dec; decide +kernel
theorem kc_FrameFinder_fill : q_code m_FrameFinder_fill := List.mem_of_getElem? (i := 717) (by decide +kernel)
theorem ko_FrameFinder_fill : q_okm m_FrameFinder_fill := by unfold q_okm; decide +kernel
def m_FrameFinder_gather : Mth := (⟨"LampWires$FrameFinder", "gather", "(LLampWires$TurnTable;)I"⟩, prog_4_method_3_code, 5, some .int, 2, [(0, [(0, .iconst 0, 1), (1, .istore_n 2, 1), (2, .aload_n 0, 1), (3, .iconst 0, 1), (4, .putfield 51, 3), (7, .aload_n 0, 1), (8, .iconst 0, 1), (9, .putfield 54, 3), (12, .iconst 0, 1), (13, .istore_n 3, 1), (14, .iload_n 3, 1), (15, .aload_n 1, 1), (16, .getfield 57, 3), (19, .if_icmp .ge 56, 3), (22, .aload_n 1, 1), (23, .getfield 62, 3), (26, .iload_n 3, 1), (27, .iaload, 1), (28, .istore 4, 2), (30, .iload 4, 2)]), (1, [(32, .aload_n 0, 1), (33, .getfield 15, 3), (36, .iconst (-1), 1), (37, .ixor, 1), (38, .iand, 1), (39, .ifCond .ne 30, 3), (42, .iload_n 2, 1), (43, .iload 4, 2), (45, .ior, 1), (46, .istore_n 2, 1), (47, .aload_n 0, 1), (48, .aload_n 0, 1), (49, .getfield 54, 3), (52, .iload 4, 2), (54, .invokestatic 65, 3), (57, .invokestatic 71, 3), (60, .putfield 54, 3), (63, .aload_n 0, 1)]), (2, [(64, .iload 4, 2), (66, .invokevirtual 77, 3), (69, .iinc 3 1, 3), (72, .goto (-58), 3), (75, .iload_n 2, 1), (76, .ireturn, 1)])])
set_option maxRecDepth 20000 in
theorem kd_FrameFinder_gather : q_dec m_FrameFinder_gather := by unfold q_dec; decide +kernel
theorem kc_FrameFinder_gather : q_code m_FrameFinder_gather := List.mem_of_getElem? (i := 721) (by decide +kernel)
theorem ko_FrameFinder_gather : q_okm m_FrameFinder_gather := by unfold q_okm; decide +kernel
def m_FrameFinder_keepIfWide : Mth := (⟨"LampWires$FrameFinder", "keepIfWide", "(I)V"⟩, prog_4_method_4_code, 4, none, 2, [(0, [(0, .iconst 0, 1), (1, .istore_n 2, 1), (2, .iconst 0, 1), (3, .istore_n 3, 1), (4, .iload_n 3, 1), (5, .aload_n 0, 1), (6, .getfield 51, 3), (9, .if_icmp .ge 51, 3), (12, .iload_n 1, 1), (13, .aload_n 0, 1), (14, .getfield 9, 3), (17, .iload_n 3, 1), (18, .iaload, 1), (19, .iconst (-1), 1), (20, .ixor, 1), (21, .iand, 1), (22, .ifCond .ne 4, 3), (25, .return_, 1), (26, .aload_n 0, 1), (27, .getfield 9, 3), (30, .iload_n 3, 1), (31, .iaload, 1)]), (1, [(32, .iload_n 1, 1), (33, .iconst (-1), 1), (34, .ixor, 1), (35, .iand, 1), (36, .ifCond .eq 18, 3), (39, .aload_n 0, 1), (40, .getfield 9, 3), (43, .iload_n 2, 1), (44, .aload_n 0, 1), (45, .getfield 9, 3), (48, .iload_n 3, 1), (49, .iaload, 1), (50, .iastore, 1), (51, .iinc 2 1, 3), (54, .iinc 3 1, 3), (57, .goto (-53), 3), (60, .aload_n 0, 1), (61, .getfield 9, 3)]), (2, [(64, .iload_n 2, 1), (65, .iload_n 1, 1), (66, .iastore, 1), (67, .aload_n 0, 1), (68, .iload_n 2, 1), (69, .iconst 1, 1), (70, .iadd, 1), (71, .putfield 51, 3), (74, .return_, 1)])])
set_option maxRecDepth 20000 in
theorem kd_FrameFinder_keepIfWide : q_dec m_FrameFinder_keepIfWide := by unfold q_dec; decide +kernel
theorem kc_FrameFinder_keepIfWide : q_code m_FrameFinder_keepIfWide := List.mem_of_getElem? (i := 729) (by decide +kernel)
theorem ko_FrameFinder_keepIfWide : q_okm m_FrameFinder_keepIfWide := by unfold q_okm; decide +kernel
def m_FrameFinder_reaches : Mth := (⟨"LampWires$FrameFinder", "reaches", "(II)Z"⟩, prog_4_method_5_code, 6, some .boolean, 2, [(0, [(0, .aload_n 0, 1), (1, .getfield 15, 3), (4, .iload_n 1, 1), (5, .iconst (-1), 1), (6, .ixor, 1), (7, .iand, 1), (8, .istore_n 3, 1), (9, .iload_n 3, 1), (10, .ifCond .ne 5, 3), (13, .iconst 1, 1), (14, .ireturn, 1), (15, .iload_n 2, 1), (16, .ifCond .le 25, 3), (19, .iload_n 3, 1), (20, .invokestatic 65, 3), (23, .iload_n 2, 1), (24, .aload_n 0, 1), (25, .getfield 54, 3), (28, .imul, 1), (29, .if_icmp .gt 12, 3)]), (1, [(32, .iload_n 2, 1), (33, .aload_n 0, 1), (34, .iload_n 1, 1), (35, .invokevirtual 81, 3), (38, .if_icmp .gt 5, 3), (41, .iconst 0, 1), (42, .ireturn, 1), (43, .iload_n 3, 1), (44, .invokestatic 84, 3), (47, .istore 4, 2), (49, .iconst 0, 1), (50, .istore 5, 2), (52, .iload 5, 2), (54, .aload_n 0, 1), (55, .getfield 51, 3), (58, .if_icmp .ge 43, 3), (61, .aload_n 0, 1), (62, .getfield 9, 3)]), (2, [(65, .iload 5, 2), (67, .iaload, 1), (68, .iload 4, 2), (70, .iand, 1), (71, .ifCond .eq 24, 3), (74, .aload_n 0, 1), (75, .iload_n 1, 1), (76, .aload_n 0, 1), (77, .getfield 9, 3), (80, .iload 5, 2), (82, .iaload, 1), (83, .ior, 1), (84, .iload_n 2, 1), (85, .iconst 1, 1), (86, .isub, 1), (87, .invokevirtual 43, 3), (90, .ifCond .eq 5, 3), (93, .iconst 1, 1), (94, .ireturn, 1), (95, .iinc 5 1, 3)]), (3, [(98, .goto (-46), 3), (101, .aload_n 0, 1), (102, .iload_n 1, 1), (103, .iload_n 2, 1), (104, .invokevirtual 87, 3), (107, .iconst 0, 1), (108, .ireturn, 1)])])
set_option maxRecDepth 20000 in
theorem kd_FrameFinder_reaches : q_dec m_FrameFinder_reaches := by unfold q_dec; decide +kernel
theorem kc_FrameFinder_reaches : q_code m_FrameFinder_reaches := List.mem_of_getElem? (i := 734) (by decide +kernel)
theorem ko_FrameFinder_reaches : q_okm m_FrameFinder_reaches := by unfold q_okm; decide +kernel
def m_FrameFinder_failedWith : Mth := (⟨"LampWires$FrameFinder", "failedWith", "(I)I"⟩, prog_4_method_6_code, 2, some .int, 2, [(0, [(0, .aload_n 0, 1), (1, .getfield 19, 3), (4, .iload_n 1, 1), (5, .iconst 4, 1), (6, .ishr, 1), (7, .laload, 1), (8, .iload_n 1, 1), (9, .bipush 15, 2), (11, .iand, 1), (12, .iconst 4, 1), (13, .imul, 1), (14, .lushr, 1), (15, .ldc2_w 91, 3), (18, .land, 1), (19, .l2i, 1), (20, .ireturn, 1)])])
set_option maxRecDepth 20000 in
theorem kd_FrameFinder_failedWith : q_dec m_FrameFinder_failedWith := by unfold q_dec; decide +kernel
theorem kc_FrameFinder_failedWith : q_code m_FrameFinder_failedWith := List.mem_of_getElem? (i := 738) (by decide +kernel)
theorem ko_FrameFinder_failedWith : q_okm m_FrameFinder_failedWith := by unfold q_okm; decide +kernel
def m_FrameFinder_noteFailed : Mth := (⟨"LampWires$FrameFinder", "noteFailed", "(II)V"⟩, prog_4_method_7_code, 6, none, 2, [(0, [(0, .iload_n 1, 1), (1, .bipush 15, 2), (3, .iand, 1), (4, .iconst 4, 1), (5, .imul, 1), (6, .istore_n 3, 1), (7, .aload_n 0, 1), (8, .getfield 19, 3), (11, .iload_n 1, 1), (12, .iconst 4, 1), (13, .ishr, 1), (14, .laload, 1), (15, .ldc2_w 91, 3), (18, .iload_n 3, 1), (19, .lshl, 1), (20, .ldc2_w 93, 3), (23, .lxor, 1), (24, .land, 1), (25, .lstore 4, 2), (27, .aload_n 0, 1), (28, .getfield 19, 3), (31, .iload_n 1, 1)]), (1, [(32, .iconst 4, 1), (33, .ishr, 1), (34, .lload 4, 2), (36, .iload_n 2, 1), (37, .i2l, 1), (38, .iload_n 3, 1), (39, .lshl, 1), (40, .lor, 1), (41, .lastore, 1), (42, .return_, 1)])])
set_option maxRecDepth 20000 in
theorem kd_FrameFinder_noteFailed : q_dec m_FrameFinder_noteFailed := by unfold q_dec; decide +kernel
theorem kc_FrameFinder_noteFailed : q_code m_FrameFinder_noteFailed := List.mem_of_getElem? (i := 746) (by decide +kernel)
theorem ko_FrameFinder_noteFailed : q_okm m_FrameFinder_noteFailed := by unfold q_okm; decide +kernel
def m_FrameFinder_take : Mth := (⟨"LampWires$FrameFinder", "take", "(LLampWires$Frame;LLampWires$TurnTable;)V"⟩, prog_4_method_8_code, 6, none, 2, [(0, [(0, .iconst 0, 1), (1, .istore_n 3, 1), (2, .iconst 0, 1), (3, .istore 4, 2), (5, .iload 4, 2), (7, .aload_n 1, 1), (8, .getfield 30, 3), (11, .if_icmp .ge 57, 3), (14, .aload_n 0, 1), (15, .aload_n 2, 1), (16, .iload_n 3, 1), (17, .aload_n 1, 1), (18, .getfield 30, 3), (21, .iload 4, 2), (23, .isub, 1), (24, .iconst 1, 1), (25, .isub, 1), (26, .invokevirtual 95, 3), (29, .istore 5, 2), (31, .iload 5, 2)]), (1, [(33, .bipush (-4), 2), (35, .if_icmp .eq 27, 3), (38, .aload_n 1, 1), (39, .getfield 99, 3), (42, .iload 4, 2), (44, .aload_n 2, 1), (45, .getfield 102, 3), (48, .iload 5, 2), (50, .iaload, 1), (51, .iastore, 1), (52, .iload_n 3, 1), (53, .aload_n 2, 1), (54, .getfield 62, 3), (57, .iload 5, 2), (59, .iaload, 1), (60, .ior, 1), (61, .istore_n 3, 1), (62, .iinc 4 1, 3)]), (2, [(65, .goto (-60), 3), (68, .return_, 1)])])
set_option maxRecDepth 20000 in
theorem kd_FrameFinder_take : q_dec m_FrameFinder_take := by unfold q_dec; decide +kernel
theorem kc_FrameFinder_take : q_code m_FrameFinder_take := List.mem_of_getElem? (i := 751) (by decide +kernel)
theorem ko_FrameFinder_take : q_okm m_FrameFinder_take := by unfold q_okm; decide +kernel
def m_FrameFinder_choose : Mth := (⟨"LampWires$FrameFinder", "choose", "(LLampWires$TurnTable;II)I"⟩, prog_4_method_9_code, 7, some .int, 2, [(0, [(0, .aload_n 0, 1), (1, .getfield 15, 3), (4, .iload_n 2, 1), (5, .iconst (-1), 1), (6, .ixor, 1), (7, .iand, 1), (8, .invokestatic 84, 3), (11, .istore 4, 2), (13, .iconst 0, 1), (14, .istore 5, 2), (16, .iload 5, 2), (18, .aload_n 1, 1), (19, .getfield 57, 3), (22, .if_icmp .ge 53, 3), (25, .aload_n 1, 1), (26, .getfield 62, 3), (29, .iload 5, 2), (31, .iaload, 1)]), (1, [(32, .istore 6, 2), (34, .iload 6, 2), (36, .iload 4, 2), (38, .iand, 1), (39, .ifCond .eq 30, 3), (42, .iload 6, 2), (44, .aload_n 0, 1), (45, .getfield 15, 3), (48, .iconst (-1), 1), (49, .ixor, 1), (50, .iand, 1), (51, .ifCond .ne 18, 3), (54, .aload_n 0, 1), (55, .iload_n 2, 1), (56, .iload 6, 2), (58, .ior, 1), (59, .iload_n 3, 1), (60, .invokevirtual 43, 3), (63, .ifCond .eq 6, 3)]), (2, [(66, .iload 5, 2), (68, .ireturn, 1), (69, .iinc 5 1, 3), (72, .goto (-56), 3), (75, .bipush (-4), 2), (77, .ireturn, 1)])])
set_option maxRecDepth 20000 in
theorem kd_FrameFinder_choose : q_dec m_FrameFinder_choose := by unfold q_dec; decide +kernel
theorem kc_FrameFinder_choose : q_code m_FrameFinder_choose := List.mem_of_getElem? (i := 755) (by decide +kernel)
theorem ko_FrameFinder_choose : q_okm m_FrameFinder_choose := by unfold q_okm; decide +kernel
def m_Frames_init : Mth := (⟨"LampWires$Frames", "<init>", "()V"⟩, prog_5_method_1_code, 2, none, 3, [(0, [(0, .aload_n 0, 1), (1, .invokespecial 1, 3), (4, .aload_n 0, 1), (5, .bipush 8, 2), (7, .anewarray 9, 3), (10, .putfield 11, 3), (13, .iconst 0, 1), (14, .istore_n 1, 1), (15, .iload_n 1, 1), (16, .bipush 8, 2), (18, .if_icmp .ge 22, 3), (21, .aload_n 0, 1), (22, .getfield 11, 3), (25, .iload_n 1, 1), (26, .new 9, 3), (29, .dup, 1), (30, .invokespecial 15, 3)]), (1, [(33, .aastore, 1), (34, .iinc 1 1, 3), (37, .goto (-22), 3), (40, .return_, 1)])])
set_option maxRecDepth 20000 in
theorem kd_Frames_init : q_dec m_Frames_init := by unfold q_dec; decide +kernel
theorem kc_Frames_init : q_code m_Frames_init := List.mem_of_getElem? (i := 255) (by decide +kernel)
theorem ko_Frames_init : q_okm m_Frames_init := by unfold q_okm; decide +kernel
def m_Frames_forget : Mth := (⟨"LampWires$Frames", "forget", "()V"⟩, prog_5_method_2_code, 2, none, 3, [(0, [(0, .iconst 0, 1), (1, .istore_n 1, 1), (2, .iload_n 1, 1), (3, .bipush 8, 2), (5, .if_icmp .ge 19, 3), (8, .aload_n 0, 1), (9, .getfield 11, 3), (12, .iload_n 1, 1), (13, .aaload, 1), (14, .iconst 0, 1), (15, .putfield 16, 3), (18, .iinc 1 1, 3), (21, .goto (-19), 3), (24, .return_, 1)])])
set_option maxRecDepth 20000 in
theorem kd_Frames_forget : q_dec m_Frames_forget := by unfold q_dec; decide +kernel
theorem kc_Frames_forget : q_code m_Frames_forget := List.mem_of_getElem? (i := 538) (by decide +kernel)
theorem ko_Frames_forget : q_okm m_Frames_forget := by unfold q_okm; decide +kernel
def m_Frames_find : Mth := (⟨"LampWires$Frames", "find", "(I)LLampWires$Frame;"⟩, prog_5_method_3_code, 3, some (.object "LampWires$Frame"), 3, [(0, [(0, .iconst 0, 1), (1, .istore_n 2, 1), (2, .iload_n 2, 1), (3, .bipush 8, 2), (5, .if_icmp .ge 41, 3), (8, .aload_n 0, 1), (9, .getfield 11, 3), (12, .iload_n 2, 1), (13, .aaload, 1), (14, .getfield 16, 3), (17, .ifCond .eq 23, 3), (20, .aload_n 0, 1), (21, .getfield 11, 3), (24, .iload_n 2, 1), (25, .aaload, 1), (26, .getfield 20, 3), (29, .iload_n 1, 1), (30, .if_icmp .ne 10, 3)]), (1, [(33, .aload_n 0, 1), (34, .getfield 11, 3), (37, .iload_n 2, 1), (38, .aaload, 1), (39, .areturn, 1), (40, .iinc 2 1, 3), (43, .goto (-41), 3), (46, .aload_n 0, 1), (47, .getfield 11, 3), (50, .aload_n 0, 1), (51, .getfield 24, 3), (54, .aaload, 1), (55, .astore_n 2, 1), (56, .aload_n 0, 1), (57, .aload_n 0, 1), (58, .getfield 24, 3), (61, .iconst 1, 1), (62, .iadd, 1), (63, .bipush 8, 2)]), (2, [(65, .irem, 1), (66, .putfield 24, 3), (69, .aload_n 2, 1), (70, .iconst 0, 1), (71, .putfield 16, 3), (74, .aload_n 2, 1), (75, .areturn, 1)])])
set_option maxRecDepth 20000 in
theorem kd_Frames_find : q_dec m_Frames_find := by unfold q_dec; decide +kernel
theorem kc_Frames_find : q_code m_Frames_find := List.mem_of_getElem? (i := 713) (by decide +kernel)
theorem ko_Frames_find : q_okm m_Frames_find := by unfold q_okm; decide +kernel
def m_Guesses_init : Mth := (⟨"LampWires$Guesses", "<init>", "()V"⟩, prog_6_method_1_code, 1, none, 4, [(0, [(0, .aload_n 0, 1), (1, .invokespecial 3, 3), (4, .aload_n 0, 1), (5, .sipush 480, 3), (8, .newarray .int, 2), (10, .putfield 11, 3), (13, .aload_n 0, 1), (14, .sipush 480, 3), (17, .newarray .int, 2), (19, .putfield 15, 3), (22, .aload_n 0, 1), (23, .bipush 16, 2), (25, .newarray .int, 2), (27, .putfield 18, 3), (30, .aload_n 0, 1), (31, .bipush 12, 2)]), (1, [(33, .newarray .int, 2), (35, .putfield 21, 3), (38, .return_, 1)])])
set_option maxRecDepth 20000 in
theorem kd_Guesses_init : q_dec m_Guesses_init := by unfold q_dec; decide +kernel
theorem kc_Guesses_init : q_code m_Guesses_init := List.mem_of_getElem? (i := 425) (by decide +kernel)
theorem ko_Guesses_init : q_okm m_Guesses_init := by unfold q_okm; decide +kernel
def m_Guesses_forget : Mth := (⟨"LampWires$Guesses", "forget", "()V"⟩, prog_6_method_2_code, 1, none, 4, [(0, [(0, .aload_n 0, 1), (1, .iconst 0, 1), (2, .putfield 24, 3), (5, .aload_n 0, 1), (6, .iconst 0, 1), (7, .putfield 28, 3), (10, .return_, 1)])])
set_option maxRecDepth 20000 in
theorem kd_Guesses_forget : q_dec m_Guesses_forget := by unfold q_dec; decide +kernel
theorem kc_Guesses_forget : q_code m_Guesses_forget := List.mem_of_getElem? (i := 542) (by decide +kernel)
theorem ko_Guesses_forget : q_okm m_Guesses_forget := by unfold q_okm; decide +kernel
def m_Guesses_suppose : Mth := (⟨"LampWires$Guesses", "suppose", "(LLampWires$Board;LLampWires$Ways;II)V"⟩, prog_6_method_3_code, 5, none, 4, [(0, [(0, .aload_n 0, 1), (1, .getfield 18, 3), (4, .iconst 0, 1), (5, .invokestatic 31, 3), (8, .aload_n 0, 1), (9, .iload_n 3, 1), (10, .invokevirtual 37, 3), (13, .aload_n 0, 1), (14, .iload 4, 2), (16, .invokevirtual 37, 3), (19, .aload_n 2, 1), (20, .aload_n 1, 1), (21, .aload_n 0, 1), (22, .getfield 18, 3), (25, .invokevirtual 41, 3), (28, .return_, 1)])])
set_option maxRecDepth 20000 in
theorem kd_Guesses_suppose : q_dec m_Guesses_suppose := by unfold q_dec; decide +kernel
theorem kc_Guesses_suppose : q_code m_Guesses_suppose := List.mem_of_getElem? (i := 1051) (by decide +kernel)
theorem ko_Guesses_suppose : q_okm m_Guesses_suppose := by unfold q_okm; decide +kernel
def m_Guesses_spoil : Mth := (⟨"LampWires$Guesses", "spoil", "(I)V"⟩, prog_6_method_4_code, 2, none, 4, [(0, [(0, .iload_n 1, 1), (1, .bipush (-4), 2), (3, .if_icmp .eq 22, 3), (6, .aload_n 0, 1), (7, .getfield 18, 3), (10, .iload_n 1, 1), (11, .iconst 2, 1), (12, .idiv, 1), (13, .iload_n 1, 1), (14, .iconst 2, 1), (15, .irem, 1), (16, .ifCond .ne 7, 3), (19, .iconst 1, 1), (20, .goto 4, 3), (23, .iconst 2, 1), (24, .iastore, 1), (25, .return_, 1)])])
set_option maxRecDepth 20000 in
theorem kd_Guesses_spoil : q_dec m_Guesses_spoil := by unfold q_dec; decide +kernel
theorem kc_Guesses_spoil : q_code m_Guesses_spoil := List.mem_of_getElem? (i := 1056) (by decide +kernel)
theorem ko_Guesses_spoil : q_okm m_Guesses_spoil := by unfold q_okm; decide +kernel
def m_Guesses_list : Mth := (⟨"LampWires$Guesses", "list", "(LLampWires$Board;LLampWires$Ways;LLampWires$Script;)V"⟩, prog_6_method_5_code, 4, none, 4, [(0, [(0, .aload_n 0, 1), (1, .getfield 24, 3), (4, .ifCond .eq 4, 3), (7, .return_, 1), (8, .aload_n 0, 1), (9, .iconst 1, 1), (10, .putfield 24, 3), (13, .aload_n 0, 1), (14, .iconst 0, 1), (15, .putfield 47, 3), (18, .aload_n 0, 1), (19, .iconst 0, 1), (20, .putfield 51, 3), (23, .aload_n 0, 1), (24, .aload_n 1, 1), (25, .aload_n 2, 1), (26, .aload_n 3, 1), (27, .bipush (-4), 2), (29, .bipush (-4), 2), (31, .invokevirtual 54, 3)]), (1, [(34, .aload_n 0, 1), (35, .getfield 47, 3), (38, .ifCond .ne 15, 3), (41, .aload_n 0, 1), (42, .iconst 1, 1), (43, .putfield 51, 3), (46, .aload_n 0, 1), (47, .aload_n 1, 1), (48, .aload_n 2, 1), (49, .aload_n 3, 1), (50, .invokevirtual 58, 3), (53, .aload_n 0, 1), (54, .getfield 47, 3), (57, .ifCond .ne 15, 3), (60, .aload_n 0, 1), (61, .iconst 2, 1), (62, .putfield 51, 3)]), (2, [(65, .aload_n 0, 1), (66, .aload_n 1, 1), (67, .aload_n 2, 1), (68, .aload_n 3, 1), (69, .invokevirtual 62, 3), (72, .aload_n 0, 1), (73, .getfield 47, 3), (76, .ifCond .ne 9, 3), (79, .aload_n 0, 1), (80, .bipush (-4), 2), (82, .putfield 51, 3), (85, .return_, 1)])])
set_option maxRecDepth 20000 in
theorem kd_Guesses_list : q_dec m_Guesses_list := by unfold q_dec; decide +kernel
theorem kc_Guesses_list : q_code m_Guesses_list := List.mem_of_getElem? (i := 1043) (by decide +kernel)
theorem ko_Guesses_list : q_okm m_Guesses_list := by unfold q_okm; decide +kernel
def m_Guesses_listSingle : Mth := (⟨"LampWires$Guesses", "listSingle", "(LLampWires$Board;LLampWires$Ways;LLampWires$Script;)V"⟩, prog_6_method_6_code, 5, none, 4, [(0, [(0, .iconst 0, 1), (1, .istore 4, 2), (3, .iload 4, 2), (5, .iconst 2, 1), (6, .aload_n 1, 1), (7, .getfield 65, 3), (10, .imul, 1), (11, .if_icmp .ge 20, 3), (14, .aload_n 0, 1), (15, .aload_n 1, 1), (16, .aload_n 2, 1), (17, .aload_n 3, 1), (18, .iload 4, 2), (20, .bipush (-4), 2), (22, .invokevirtual 54, 3), (25, .iinc 4 1, 3), (28, .goto (-25), 3), (31, .return_, 1)])])
set_option maxRecDepth 20000 in
theorem kd_Guesses_listSingle : q_dec m_Guesses_listSingle := by unfold q_dec; decide +kernel
theorem kc_Guesses_listSingle : q_code m_Guesses_listSingle := List.mem_of_getElem? (i := 1062) (by decide +kernel)
theorem ko_Guesses_listSingle : q_okm m_Guesses_listSingle := by unfold q_okm; decide +kernel
def m_Guesses_listDouble : Mth := (⟨"LampWires$Guesses", "listDouble", "(LLampWires$Board;LLampWires$Ways;LLampWires$Script;)V"⟩, prog_6_method_7_code, 6, none, 4, [(0, [(0, .iconst 0, 1), (1, .istore 4, 2), (3, .iload 4, 2), (5, .iconst 2, 1), (6, .aload_n 1, 1), (7, .getfield 65, 3), (10, .imul, 1), (11, .if_icmp .ge 54, 3), (14, .iload 4, 2), (16, .iconst 1, 1), (17, .iadd, 1), (18, .istore 5, 2), (20, .iload 5, 2), (22, .iconst 2, 1), (23, .aload_n 1, 1), (24, .getfield 65, 3), (27, .imul, 1), (28, .if_icmp .ge 31, 3), (31, .iload 4, 2)]), (1, [(33, .iconst 2, 1), (34, .idiv, 1), (35, .iload 5, 2), (37, .iconst 2, 1), (38, .idiv, 1), (39, .if_icmp .eq 14, 3), (42, .aload_n 0, 1), (43, .aload_n 1, 1), (44, .aload_n 2, 1), (45, .aload_n 3, 1), (46, .iload 4, 2), (48, .iload 5, 2), (50, .invokevirtual 54, 3), (53, .iinc 5 1, 3), (56, .goto (-36), 3), (59, .iinc 4 1, 3), (62, .goto (-59), 3)]), (2, [(65, .return_, 1)])])
set_option maxRecDepth 20000 in
theorem kd_Guesses_listDouble : q_dec m_Guesses_listDouble := by unfold q_dec; decide +kernel
theorem kc_Guesses_listDouble : q_code m_Guesses_listDouble := List.mem_of_getElem? (i := 1066) (by decide +kernel)
theorem ko_Guesses_listDouble : q_okm m_Guesses_listDouble := by unfold q_okm; decide +kernel
def m_Guesses_tryGuess : Mth := (⟨"LampWires$Guesses", "tryGuess", "(LLampWires$Board;LLampWires$Ways;LLampWires$Script;II)V"⟩, prog_6_method_8_code, 7, none, 4, [(0, [(0, .aload_n 0, 1), (1, .aload_n 1, 1), (2, .aload_n 2, 1), (3, .iload 4, 2), (5, .iload 5, 2), (7, .invokevirtual 70, 3), (10, .iconst 0, 1), (11, .istore 6, 2), (13, .iload 6, 2), (15, .aload_n 3, 1), (16, .getfield 74, 3), (19, .if_icmp .ge 47, 3), (22, .aload_n 3, 1), (23, .getfield 79, 3), (26, .iload 6, 2), (28, .iaload, 1), (29, .bipush (-4), 2), (31, .if_icmp .eq 29, 3)]), (1, [(34, .aload_n 2, 1), (35, .aload_n 3, 1), (36, .getfield 82, 3), (39, .iload 6, 2), (41, .iaload, 1), (42, .invokevirtual 85, 3), (45, .aload_n 2, 1), (46, .getfield 88, 3), (49, .aload_n 3, 1), (50, .getfield 79, 3), (53, .iload 6, 2), (55, .iaload, 1), (56, .if_icmp .eq 4, 3), (59, .return_, 1), (60, .iinc 6 1, 3), (63, .goto (-50), 3)]), (2, [(66, .aload_n 0, 1), (67, .getfield 47, 3), (70, .sipush 480, 3), (73, .if_icmp .ge 35, 3), (76, .aload_n 0, 1), (77, .getfield 11, 3), (80, .aload_n 0, 1), (81, .getfield 47, 3), (84, .iload 4, 2), (86, .iastore, 1), (87, .aload_n 0, 1), (88, .getfield 15, 3), (91, .aload_n 0, 1), (92, .getfield 47, 3), (95, .iload 5, 2)]), (3, [(97, .iastore, 1), (98, .aload_n 0, 1), (99, .dup, 1), (100, .getfield 47, 3), (103, .iconst 1, 1), (104, .iadd, 1), (105, .putfield 47, 3), (108, .return_, 1)])])
set_option maxRecDepth 20000 in
theorem kd_Guesses_tryGuess : q_dec m_Guesses_tryGuess := by unfold q_dec; decide +kernel
theorem kc_Guesses_tryGuess : q_code m_Guesses_tryGuess := List.mem_of_getElem? (i := 1047) (by decide +kernel)
theorem ko_Guesses_tryGuess : q_okm m_Guesses_tryGuess := by unfold q_okm; decide +kernel
def m_Guesses_weigh : Mth := (⟨"LampWires$Guesses", "weigh", "(LLampWires$Board;LLampWires$Ways;LLampWires$Script;)V"⟩, prog_6_method_9_code, 5, none, 4, [(0, [(0, .aload_n 0, 1), (1, .getfield 28, 3), (4, .ifCond .eq 4, 3), (7, .return_, 1), (8, .aload_n 0, 1), (9, .iconst 1, 1), (10, .putfield 28, 3), (13, .aload_n 0, 1), (14, .iconst 0, 1), (15, .putfield 91, 3), (18, .aload_n 0, 1), (19, .bipush (-4), 2), (21, .putfield 94, 3), (24, .aload_n 0, 1), (25, .aload_n 1, 1), (26, .aload_n 2, 1), (27, .bipush (-4), 2), (29, .bipush (-4), 2), (31, .invokevirtual 70, 3)]), (1, [(34, .iconst 0, 1), (35, .istore 4, 2), (37, .iload 4, 2), (39, .aload_n 3, 1), (40, .getfield 74, 3), (43, .if_icmp .ge 31, 3), (46, .aload_n 2, 1), (47, .aload_n 3, 1), (48, .getfield 82, 3), (51, .iload 4, 2), (53, .iaload, 1), (54, .invokevirtual 85, 3), (57, .aload_n 0, 1), (58, .getfield 21, 3), (61, .iload 4, 2), (63, .aload_n 2, 1)]), (2, [(64, .getfield 88, 3), (67, .iastore, 1), (68, .iinc 4 1, 3), (71, .goto (-34), 3), (74, .iconst 0, 1), (75, .istore 4, 2), (77, .iload 4, 2), (79, .iconst 2, 1), (80, .aload_n 1, 1), (81, .getfield 65, 3), (84, .imul, 1), (85, .if_icmp .ge 56, 3), (88, .aload_n 0, 1), (89, .aload_n 1, 1), (90, .aload_n 2, 1), (91, .iload 4, 2), (93, .bipush (-4), 2), (95, .invokevirtual 70, 3)]), (3, [(98, .aload_n 0, 1), (99, .aload_n 2, 1), (100, .aload_n 3, 1), (101, .invokevirtual 97, 3), (104, .ifCond .eq 16, 3), (107, .aload_n 0, 1), (108, .dup, 1), (109, .getfield 91, 3), (112, .iconst 1, 1), (113, .iadd, 1), (114, .putfield 91, 3), (117, .goto 18, 3), (120, .aload_n 0, 1), (121, .getfield 94, 3), (124, .bipush (-4), 2), (126, .if_icmp .ne 9, 3)]), (4, [(129, .aload_n 0, 1), (130, .iload 4, 2), (132, .putfield 94, 3), (135, .iinc 4 1, 3), (138, .goto (-61), 3), (141, .return_, 1)])])
set_option maxRecDepth 20000 in
theorem kd_Guesses_weigh : q_dec m_Guesses_weigh := by unfold q_dec; decide +kernel
theorem kc_Guesses_weigh : q_code m_Guesses_weigh := List.mem_of_getElem? (i := 1074) (by decide +kernel)
theorem ko_Guesses_weigh : q_okm m_Guesses_weigh := by unfold q_okm; decide +kernel
def m_Guesses_changesLine : Mth := (⟨"LampWires$Guesses", "changesLine", "(LLampWires$Ways;LLampWires$Script;)Z"⟩, prog_6_method_10_code, 4, some .boolean, 4, [(0, [(0, .iconst 0, 1), (1, .istore_n 3, 1), (2, .iload_n 3, 1), (3, .aload_n 2, 1), (4, .getfield 74, 3), (7, .if_icmp .ge 34, 3), (10, .aload_n 1, 1), (11, .aload_n 2, 1), (12, .getfield 82, 3), (15, .iload_n 3, 1), (16, .iaload, 1), (17, .invokevirtual 85, 3), (20, .aload_n 1, 1), (21, .getfield 88, 3), (24, .aload_n 0, 1), (25, .getfield 21, 3), (28, .iload_n 3, 1), (29, .iaload, 1), (30, .if_icmp .eq 5, 3)]), (1, [(33, .iconst 1, 1), (34, .ireturn, 1), (35, .iinc 3 1, 3), (38, .goto (-36), 3), (41, .iconst 0, 1), (42, .ireturn, 1)])])
set_option maxRecDepth 20000 in
theorem kd_Guesses_changesLine : q_dec m_Guesses_changesLine := by unfold q_dec; decide +kernel
theorem kc_Guesses_changesLine : q_code m_Guesses_changesLine := List.mem_of_getElem? (i := 1078) (by decide +kernel)
theorem ko_Guesses_changesLine : q_okm m_Guesses_changesLine := by unfold q_okm; decide +kernel
def m_Script_init : Mth := (⟨"LampWires$Script", "<init>", "()V"⟩, prog_7_method_1_code, 1, none, 5, [(0, [(0, .aload_n 0, 1), (1, .invokespecial 3, 3), (4, .aload_n 0, 1), (5, .bipush 12, 2), (7, .newarray .int, 2), (9, .putfield 9, 3), (12, .aload_n 0, 1), (13, .bipush 12, 2), (15, .newarray .int, 2), (17, .putfield 15, 3), (20, .aload_n 0, 1), (21, .bipush 12, 2), (23, .newarray .int, 2), (25, .putfield 18, 3), (28, .return_, 1)])])
set_option maxRecDepth 20000 in
theorem kd_Script_init : q_dec m_Script_init := by unfold q_dec; decide +kernel
theorem kc_Script_init : q_code m_Script_init := List.mem_of_getElem? (i := 399) (by decide +kernel)
theorem ko_Script_init : q_okm m_Script_init := by unfold q_okm; decide +kernel
def m_Script_take : Mth := (⟨"LampWires$Script", "take", "(LLampWires$Tape;)V"⟩, prog_7_method_2_code, 3, none, 5, [(0, [(0, .aload_n 0, 1), (1, .aload_n 1, 1), (2, .getfield 21, 3), (5, .putfield 27, 3), (8, .iconst 0, 1), (9, .istore_n 2, 1), (10, .iload_n 2, 1), (11, .aload_n 0, 1), (12, .getfield 27, 3), (15, .if_icmp .ge 41, 3), (18, .aload_n 0, 1), (19, .getfield 9, 3), (22, .iload_n 2, 1), (23, .aload_n 1, 1), (24, .getfield 28, 3), (27, .iload_n 2, 1), (28, .iaload, 1), (29, .iastore, 1), (30, .aload_n 0, 1), (31, .getfield 15, 3)]), (1, [(34, .iload_n 2, 1), (35, .aload_n 1, 1), (36, .getfield 29, 3), (39, .iload_n 2, 1), (40, .iaload, 1), (41, .iastore, 1), (42, .aload_n 0, 1), (43, .getfield 18, 3), (46, .iload_n 2, 1), (47, .bipush (-4), 2), (49, .iastore, 1), (50, .iinc 2 1, 3), (53, .goto (-43), 3), (56, .return_, 1)])])
set_option maxRecDepth 20000 in
theorem kd_Script_take : q_dec m_Script_take := by unfold q_dec; decide +kernel
theorem kc_Script_take : q_code m_Script_take := List.mem_of_getElem? (i := 970) (by decide +kernel)
theorem ko_Script_take : q_okm m_Script_take := by unfold q_okm; decide +kernel
def m_Script_isLine : Mth := (⟨"LampWires$Script", "isLine", "(I)Z"⟩, prog_7_method_3_code, 2, some .boolean, 5, [(0, [(0, .iload_n 1, 1), (1, .ifCond .lt 15, 3), (4, .iload_n 1, 1), (5, .aload_n 0, 1), (6, .getfield 27, 3), (9, .if_icmp .ge 7, 3), (12, .iconst 1, 1), (13, .goto 4, 3), (16, .iconst 0, 1), (17, .ireturn, 1)])])
set_option maxRecDepth 20000 in
theorem kd_Script_isLine : q_dec m_Script_isLine := by unfold q_dec; decide +kernel
theorem kc_Script_isLine : q_code m_Script_isLine := List.mem_of_getElem? (i := 982) (by decide +kernel)
theorem ko_Script_isLine : q_okm m_Script_isLine := by unfold q_okm; decide +kernel
def m_Script_ticksBefore : Mth := (⟨"LampWires$Script", "ticksBefore", "(I)I"⟩, prog_7_method_4_code, 4, some .int, 5, [(0, [(0, .iconst 0, 1), (1, .istore_n 2, 1), (2, .iconst 0, 1), (3, .istore_n 3, 1), (4, .iload_n 3, 1), (5, .iload_n 1, 1), (6, .if_icmp .ge 26, 3), (9, .iload_n 3, 1), (10, .aload_n 0, 1), (11, .getfield 27, 3), (14, .if_icmp .ge 18, 3), (17, .iload_n 2, 1), (18, .aload_n 0, 1), (19, .getfield 15, 3), (22, .iload_n 3, 1), (23, .iaload, 1), (24, .iadd, 1), (25, .istore_n 2, 1), (26, .iinc 3 1, 3), (29, .goto (-25), 3)]), (1, [(32, .iload_n 2, 1), (33, .ireturn, 1)])])
set_option maxRecDepth 20000 in
theorem kd_Script_ticksBefore : q_dec m_Script_ticksBefore := by unfold q_dec; decide +kernel
theorem kc_Script_ticksBefore : q_code m_Script_ticksBefore := List.mem_of_getElem? (i := 986) (by decide +kernel)
theorem ko_Script_ticksBefore : q_okm m_Script_ticksBefore := by unfold q_okm; decide +kernel
def m_Script_turnAt : Mth := (⟨"LampWires$Script", "turnAt", "(I)I"⟩, prog_7_method_5_code, 4, some .int, 5, [(0, [(0, .iload_n 1, 1), (1, .istore_n 2, 1), (2, .iconst 0, 1), (3, .istore_n 3, 1), (4, .iload_n 3, 1), (5, .aload_n 0, 1), (6, .getfield 27, 3), (9, .if_icmp .ge 35, 3), (12, .iload_n 2, 1), (13, .aload_n 0, 1), (14, .getfield 15, 3), (17, .iload_n 3, 1), (18, .iaload, 1), (19, .if_icmp .ge 10, 3), (22, .aload_n 0, 1), (23, .getfield 9, 3), (26, .iload_n 3, 1), (27, .iaload, 1), (28, .ireturn, 1), (29, .iload_n 2, 1), (30, .aload_n 0, 1), (31, .getfield 15, 3)]), (1, [(34, .iload_n 3, 1), (35, .iaload, 1), (36, .isub, 1), (37, .istore_n 2, 1), (38, .iinc 3 1, 3), (41, .goto (-37), 3), (44, .iconst 0, 1), (45, .ireturn, 1)])])
set_option maxRecDepth 20000 in
theorem kd_Script_turnAt : q_dec m_Script_turnAt := by unfold q_dec; decide +kernel
theorem kc_Script_turnAt : q_code m_Script_turnAt := List.mem_of_getElem? (i := 1031) (by decide +kernel)
theorem ko_Script_turnAt : q_okm m_Script_turnAt := by unfold q_okm; decide +kernel
def m_Script_linesSeen : Mth := (⟨"LampWires$Script", "linesSeen", "()I"⟩, prog_7_method_6_code, 3, some .int, 5, [(0, [(0, .iconst 0, 1), (1, .istore_n 1, 1), (2, .iconst 0, 1), (3, .istore_n 2, 1), (4, .iload_n 2, 1), (5, .aload_n 0, 1), (6, .getfield 27, 3), (9, .if_icmp .ge 23, 3), (12, .aload_n 0, 1), (13, .getfield 18, 3), (16, .iload_n 2, 1), (17, .iaload, 1), (18, .bipush (-4), 2), (20, .if_icmp .eq 6, 3), (23, .iinc 1 1, 3), (26, .iinc 2 1, 3), (29, .goto (-25), 3)]), (1, [(32, .iload_n 1, 1), (33, .ireturn, 1)])])
set_option maxRecDepth 20000 in
theorem kd_Script_linesSeen : q_dec m_Script_linesSeen := by unfold q_dec; decide +kernel
theorem kc_Script_linesSeen : q_code m_Script_linesSeen := List.mem_of_getElem? (i := 1134) (by decide +kernel)
theorem ko_Script_linesSeen : q_okm m_Script_linesSeen := by unfold q_okm; decide +kernel
def m_Sheet_init : Mth := (⟨"LampWires$Sheet", "<init>", "()V"⟩, prog_8_method_1_code, 1, none, 6, [(0, [(0, .aload_n 0, 1), (1, .invokespecial 3, 3), (4, .aload_n 0, 1), (5, .bipush (-4), 2), (7, .putfield 9, 3), (10, .aload_n 0, 1), (11, .bipush 40, 2), (13, .newarray .int, 2), (15, .putfield 15, 3), (18, .return_, 1)])])
set_option maxRecDepth 20000 in
theorem kd_Sheet_init : q_dec m_Sheet_init := by unfold q_dec; decide +kernel
theorem kc_Sheet_init : q_code m_Sheet_init := List.mem_of_getElem? (i := 470) (by decide +kernel)
theorem ko_Sheet_init : q_okm m_Sheet_init := by unfold q_okm; decide +kernel
def m_Sheet_renew : Mth := (⟨"LampWires$Sheet", "renew", "(II)V"⟩, prog_8_method_2_code, 3, none, 6, [(0, [(0, .aload_n 0, 1), (1, .iload_n 1, 1), (2, .putfield 19, 3), (5, .aload_n 0, 1), (6, .iload_n 2, 1), (7, .putfield 9, 3), (10, .aload_n 0, 1), (11, .getfield 15, 3), (14, .iconst 0, 1), (15, .invokestatic 22, 3), (18, .return_, 1)])])
set_option maxRecDepth 20000 in
theorem kd_Sheet_renew : q_dec m_Sheet_renew := by unfold q_dec; decide +kernel
theorem kc_Sheet_renew : q_code m_Sheet_renew := List.mem_of_getElem? (i := 1101) (by decide +kernel)
theorem ko_Sheet_renew : q_okm m_Sheet_renew := by unfold q_okm; decide +kernel
def m_Sheet_isCell : Mth := (⟨"LampWires$Sheet", "isCell", "(I)Z"⟩, prog_8_method_3_code, 2, some .boolean, 6, [(0, [(0, .iload_n 1, 1), (1, .ifCond .lt 15, 3), (4, .iload_n 1, 1), (5, .aload_n 0, 1), (6, .getfield 9, 3), (9, .if_icmp .ge 7, 3), (12, .iconst 1, 1), (13, .goto 4, 3), (16, .iconst 0, 1), (17, .ireturn, 1)])])
set_option maxRecDepth 20000 in
theorem kd_Sheet_isCell : q_dec m_Sheet_isCell := by unfold q_dec; decide +kernel
theorem kc_Sheet_isCell : q_code m_Sheet_isCell := List.mem_of_getElem? (i := 1110) (by decide +kernel)
theorem ko_Sheet_isCell : q_okm m_Sheet_isCell := by unfold q_okm; decide +kernel
def m_Sheet_put : Mth := (⟨"LampWires$Sheet", "put", "(II)V"⟩, prog_8_method_4_code, 3, none, 6, [(0, [(0, .aload_n 0, 1), (1, .getfield 15, 3), (4, .iload_n 1, 1), (5, .aload_n 0, 1), (6, .getfield 19, 3), (9, .ifCond .ne 8, 3), (12, .iload_n 2, 1), (13, .i2b, 1), (14, .goto 17, 3), (17, .aload_n 0, 1), (18, .getfield 19, 3), (21, .iconst 1, 1), (22, .if_icmp .ne 8, 3), (25, .iload_n 2, 1), (26, .i2s, 1), (27, .goto 4, 3), (30, .iload_n 2, 1), (31, .iastore, 1)]), (1, [(32, .return_, 1)])])
set_option maxRecDepth 20000 in
theorem kd_Sheet_put : q_dec m_Sheet_put := by unfold q_dec; decide +kernel
theorem kc_Sheet_put : q_code m_Sheet_put := List.mem_of_getElem? (i := 1114) (by decide +kernel)
theorem ko_Sheet_put : q_okm m_Sheet_put := by unfold q_okm; decide +kernel
def m_Tape_init : Mth := (⟨"LampWires$Tape", "<init>", "()V"⟩, prog_9_method_1_code, 1, none, 7, [(0, [(0, .aload_n 0, 1), (1, .invokespecial 3, 3), (4, .aload_n 0, 1), (5, .bipush 12, 2), (7, .newarray .int, 2), (9, .putfield 9, 3), (12, .aload_n 0, 1), (13, .bipush 12, 2), (15, .newarray .int, 2), (17, .putfield 15, 3), (20, .aload_n 0, 1), (21, .sipush 200, 3), (24, .newarray .byte, 2), (26, .putfield 18, 3), (29, .return_, 1)])])
set_option maxRecDepth 20000 in
theorem kd_Tape_init : q_dec m_Tape_init := by unfold q_dec; decide +kernel
theorem kc_Tape_init : q_code m_Tape_init := List.mem_of_getElem? (i := 343) (by decide +kernel)
theorem ko_Tape_init : q_okm m_Tape_init := by unfold q_okm; decide +kernel
