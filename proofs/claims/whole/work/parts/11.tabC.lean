def T_X9_within : List (Nat × zO) := [(0, o_lload 1 0), (1, o_lload 2 2), (2, o_lcmp 3), (3, o_if_lt 17 6), (6, o_lload 7 0), (7, o_lload 9 4), (9, o_lcmp 10), (10, o_if_gt 17 13), (13, o_const 14 1), (14, o_goto 18), (17, o_const 18 0), (18, o_zret)]
set_option maxRecDepth 20000 in
theorem t_X9_within : ∀ q ∈ T_X9_within, zS k_X9_within q.1 q.2 := by
  unfold T_X9_within
  refine List.forall_mem_cons.mpr ⟨s_lload_n (j := 0) (by decide +kernel) rfl rfl, ?_⟩
  refine List.forall_mem_cons.mpr ⟨s_lload_n (j := 2) (by decide +kernel) rfl rfl, ?_⟩
  refine List.forall_mem_cons.mpr ⟨s_lcmp (by decide +kernel) rfl, ?_⟩
  refine List.forall_mem_cons.mpr ⟨s_if_lt (off := 14) (by decide +kernel) (by decide) rfl, ?_⟩
  refine List.forall_mem_cons.mpr ⟨s_lload_n (j := 0) (by decide +kernel) rfl rfl, ?_⟩
  refine List.forall_mem_cons.mpr ⟨s_lload (by decide +kernel) rfl, ?_⟩
  refine List.forall_mem_cons.mpr ⟨s_lcmp (by decide +kernel) rfl, ?_⟩
  refine List.forall_mem_cons.mpr ⟨s_if_gt (off := 7) (by decide +kernel) (by decide) rfl, ?_⟩
  refine List.forall_mem_cons.mpr ⟨s_iconst (by decide +kernel) rfl, ?_⟩
  refine List.forall_mem_cons.mpr ⟨s_goto (off := 4) (by decide +kernel) (by decide), ?_⟩
  refine List.forall_mem_cons.mpr ⟨s_iconst (by decide +kernel) rfl, ?_⟩
  refine List.forall_mem_cons.mpr ⟨s_zret rfl (by decide +kernel), ?_⟩
  exact fun q hq => absurd hq List.not_mem_nil
def T_X9_isMinute : List (Nat × zO) := [(0, o_iload 1 0), (1, o_i2l 2), (2, o_lconst 3 0), (3, o_lconst 6 (1439)), (6, o_calls 3 k_X9_within 9), (9, o_zret)]
set_option maxRecDepth 20000 in
theorem t_X9_isMinute : ∀ q ∈ T_X9_isMinute, zS k_X9_isMinute q.1 q.2 := by
  unfold T_X9_isMinute
  refine List.forall_mem_cons.mpr ⟨s_iload_n (j := 0) (by decide +kernel) rfl rfl, ?_⟩
  refine List.forall_mem_cons.mpr ⟨s_i2l (by decide +kernel) rfl, ?_⟩
  refine List.forall_mem_cons.mpr ⟨s_lconst (z := 0) (by decide +kernel) (by decide) rfl, ?_⟩
  refine List.forall_mem_cons.mpr ⟨s_ldc2 (idx := 3) (y := (1439)) (by decide +kernel) q5_90 rfl, ?_⟩
  refine List.forall_mem_cons.mpr ⟨s_calls (idx := 5) (k' := k_X9_within) q5_50 q5_48 q5_49 q1_10 de_X9_within (by decide) (by decide +kernel) rfl, ?_⟩
  refine List.forall_mem_cons.mpr ⟨s_zret rfl (by decide +kernel), ?_⟩
  exact fun q hq => absurd hq List.not_mem_nil
def T_X9_becomes : List (Nat × zO) := [(0, o_aload 1 0), (1, o_getf 4 9 0), (4, o_iload 5 1), (5, o_iald 6), (6, o_istore 7 3), (7, o_iload 8 3), (8, o_iload 9 2), (9, o_icmp_ne 14 12), (12, o_iload 13 3), (13, o_iret), (14, o_aload 15 0), (15, o_getf 18 9 5), (18, o_const 20 40), (20, o_icmp_ne 97 23), (23, o_const 24 1), (24, o_istore 26 4), (26, o_iload 28 4), (28, o_const 30 40), (30, o_icmp_ge 87 33), (33, o_aload 34 0), (34, o_getf 37 9 1), (37, o_iload 39 4), (39, o_const 40 1), (40, o_isub 41), (41, o_aload 42 0), (42, o_getf 45 9 1), (45, o_iload 47 4), (47, o_iald 48), (48, o_iast 49), (49, o_aload 50 0), (50, o_getf 53 9 2), (53, o_iload 55 4), (55, o_const 56 1), (56, o_isub 57), (57, o_aload 58 0), (58, o_getf 61 9 2), (61, o_iload 63 4), (63, o_iald 64), (64, o_iast 65), (65, o_aload 66 0), (66, o_getf 69 9 3), (69, o_iload 71 4), (71, o_const 72 1), (72, o_isub 73), (73, o_aload 74 0), (74, o_getf 77 9 3), (77, o_iload 79 4), (79, o_iald 80), (80, o_iast 81), (81, o_iinc 84 4 1), (84, o_goto 26), (87, o_aload 88 0), (88, o_dup 89), (89, o_getf 92 9 5), (92, o_const 93 1), (93, o_isub 94), (94, o_putf 97 9 5), (97, o_aload 98 0), (98, o_getf 101 9 1), (101, o_aload 102 0), (102, o_getf 105 9 5), (105, o_iload 106 1), (106, o_iast 107), (107, o_aload 108 0), (108, o_getf 111 9 2), (111, o_aload 112 0), (112, o_getf 115 9 5), (115, o_iload 116 3), (116, o_iast 117), (117, o_aload 118 0), (118, o_getf 121 9 3), (121, o_aload 122 0), (122, o_getf 125 9 5), (125, o_iload 126 2), (126, o_iast 127), (127, o_aload 128 0), (128, o_dup 129), (129, o_getf 132 9 5), (132, o_const 133 1), (133, o_iadd 134), (134, o_putf 137 9 5), (137, o_aload 138 0), (138, o_aload 139 0), (139, o_getf 142 9 5), (142, o_putf 145 9 4), (145, o_aload 146 0), (146, o_getf 149 9 0), (149, o_iload 150 1), (150, o_iload 151 2), (151, o_iast 152), (152, o_iload 153 3), (153, o_iret)]
set_option maxRecDepth 20000 in
theorem t_X9_becomes : ∀ q ∈ T_X9_becomes, zS k_X9_becomes q.1 q.2 := by
  unfold T_X9_becomes
  refine List.forall_mem_cons.mpr ⟨s_aload_n (j := 0) (by decide +kernel) rfl rfl, ?_⟩
  refine List.forall_mem_cons.mpr ⟨s_getf (idx := 15) (C := RX9) (T := TX9) (N := 54) rfl inX9 (by decide) q4_111 (by decide +kernel) rfl, ?_⟩
  refine List.forall_mem_cons.mpr ⟨s_iload_n (j := 1) (by decide +kernel) rfl rfl, ?_⟩
  refine List.forall_mem_cons.mpr ⟨s_iald (by decide +kernel) rfl, ?_⟩
  refine List.forall_mem_cons.mpr ⟨s_istore_n (j := 3) (by decide +kernel) rfl (by decide) rfl, ?_⟩
  refine List.forall_mem_cons.mpr ⟨s_iload_n (j := 3) (by decide +kernel) rfl rfl, ?_⟩
  refine List.forall_mem_cons.mpr ⟨s_iload_n (j := 2) (by decide +kernel) rfl rfl, ?_⟩
  refine List.forall_mem_cons.mpr ⟨s_icmp_ne (off := 5) (by decide +kernel) (by decide) rfl, ?_⟩
  refine List.forall_mem_cons.mpr ⟨s_iload_n (j := 3) (by decide +kernel) rfl rfl, ?_⟩
  refine List.forall_mem_cons.mpr ⟨s_iret rfl (by decide +kernel), ?_⟩
  refine List.forall_mem_cons.mpr ⟨s_aload_n (j := 0) (by decide +kernel) rfl rfl, ?_⟩
  refine List.forall_mem_cons.mpr ⟨s_getf (idx := 123) (C := RX9) (T := TX9) (N := 54) rfl inX9 (by decide) q4_116 (by decide +kernel) rfl, ?_⟩
  refine List.forall_mem_cons.mpr ⟨s_bipush (by decide +kernel) (by decide) rfl, ?_⟩
  refine List.forall_mem_cons.mpr ⟨s_icmp_ne (off := 77) (by decide +kernel) (by decide) rfl, ?_⟩
  refine List.forall_mem_cons.mpr ⟨s_iconst (by decide +kernel) rfl, ?_⟩
  refine List.forall_mem_cons.mpr ⟨s_istore (by decide +kernel) (by decide) rfl, ?_⟩
  refine List.forall_mem_cons.mpr ⟨s_iload (by decide +kernel) rfl, ?_⟩
  refine List.forall_mem_cons.mpr ⟨s_bipush (by decide +kernel) (by decide) rfl, ?_⟩
  refine List.forall_mem_cons.mpr ⟨s_icmp_ge (off := 57) (by decide +kernel) (by decide) rfl, ?_⟩
  refine List.forall_mem_cons.mpr ⟨s_aload_n (j := 0) (by decide +kernel) rfl rfl, ?_⟩
  refine List.forall_mem_cons.mpr ⟨s_getf (idx := 19) (C := RX9) (T := TX9) (N := 54) rfl inX9 (by decide) q4_112 (by decide +kernel) rfl, ?_⟩
  refine List.forall_mem_cons.mpr ⟨s_iload (by decide +kernel) rfl, ?_⟩
  refine List.forall_mem_cons.mpr ⟨s_iconst (by decide +kernel) rfl, ?_⟩
  refine List.forall_mem_cons.mpr ⟨s_isub (by decide +kernel) rfl, ?_⟩
  refine List.forall_mem_cons.mpr ⟨s_aload_n (j := 0) (by decide +kernel) rfl rfl, ?_⟩
  refine List.forall_mem_cons.mpr ⟨s_getf (idx := 19) (C := RX9) (T := TX9) (N := 54) rfl inX9 (by decide) q4_112 (by decide +kernel) rfl, ?_⟩
  refine List.forall_mem_cons.mpr ⟨s_iload (by decide +kernel) rfl, ?_⟩
  refine List.forall_mem_cons.mpr ⟨s_iald (by decide +kernel) rfl, ?_⟩
  refine List.forall_mem_cons.mpr ⟨s_iast (by decide +kernel) rfl, ?_⟩
  refine List.forall_mem_cons.mpr ⟨s_aload_n (j := 0) (by decide +kernel) rfl rfl, ?_⟩
  refine List.forall_mem_cons.mpr ⟨s_getf (idx := 22) (C := RX9) (T := TX9) (N := 54) rfl inX9 (by decide) q4_113 (by decide +kernel) rfl, ?_⟩
  refine List.forall_mem_cons.mpr ⟨s_iload (by decide +kernel) rfl, ?_⟩
  refine List.forall_mem_cons.mpr ⟨s_iconst (by decide +kernel) rfl, ?_⟩
  refine List.forall_mem_cons.mpr ⟨s_isub (by decide +kernel) rfl, ?_⟩
  refine List.forall_mem_cons.mpr ⟨s_aload_n (j := 0) (by decide +kernel) rfl rfl, ?_⟩
  refine List.forall_mem_cons.mpr ⟨s_getf (idx := 22) (C := RX9) (T := TX9) (N := 54) rfl inX9 (by decide) q4_113 (by decide +kernel) rfl, ?_⟩
  refine List.forall_mem_cons.mpr ⟨s_iload (by decide +kernel) rfl, ?_⟩
  refine List.forall_mem_cons.mpr ⟨s_iald (by decide +kernel) rfl, ?_⟩
  refine List.forall_mem_cons.mpr ⟨s_iast (by decide +kernel) rfl, ?_⟩
  refine List.forall_mem_cons.mpr ⟨s_aload_n (j := 0) (by decide +kernel) rfl rfl, ?_⟩
  refine List.forall_mem_cons.mpr ⟨s_getf (idx := 25) (C := RX9) (T := TX9) (N := 54) rfl inX9 (by decide) q4_114 (by decide +kernel) rfl, ?_⟩
  refine List.forall_mem_cons.mpr ⟨s_iload (by decide +kernel) rfl, ?_⟩
  refine List.forall_mem_cons.mpr ⟨s_iconst (by decide +kernel) rfl, ?_⟩
  refine List.forall_mem_cons.mpr ⟨s_isub (by decide +kernel) rfl, ?_⟩
  refine List.forall_mem_cons.mpr ⟨s_aload_n (j := 0) (by decide +kernel) rfl rfl, ?_⟩
  refine List.forall_mem_cons.mpr ⟨s_getf (idx := 25) (C := RX9) (T := TX9) (N := 54) rfl inX9 (by decide) q4_114 (by decide +kernel) rfl, ?_⟩
  refine List.forall_mem_cons.mpr ⟨s_iload (by decide +kernel) rfl, ?_⟩
  refine List.forall_mem_cons.mpr ⟨s_iald (by decide +kernel) rfl, ?_⟩
  refine List.forall_mem_cons.mpr ⟨s_iast (by decide +kernel) rfl, ?_⟩
  refine List.forall_mem_cons.mpr ⟨s_iinc (by decide +kernel) (by decide) rfl, ?_⟩
  refine List.forall_mem_cons.mpr ⟨s_goto (off := (-58)) (by decide +kernel) (by decide), ?_⟩
  refine List.forall_mem_cons.mpr ⟨s_aload_n (j := 0) (by decide +kernel) rfl rfl, ?_⟩
  refine List.forall_mem_cons.mpr ⟨s_dup (by decide +kernel) rfl, ?_⟩
  refine List.forall_mem_cons.mpr ⟨s_getf (idx := 123) (C := RX9) (T := TX9) (N := 54) rfl inX9 (by decide) q4_116 (by decide +kernel) rfl, ?_⟩
  refine List.forall_mem_cons.mpr ⟨s_iconst (by decide +kernel) rfl, ?_⟩
  refine List.forall_mem_cons.mpr ⟨s_isub (by decide +kernel) rfl, ?_⟩
  refine List.forall_mem_cons.mpr ⟨s_putf (idx := 123) (C := RX9) (T := TX9) (N := 54) rfl inX9 tyX9_ok nmX9 (by decide) rfl (tyX9_ok 5 (by decide)) (Or.inl ⟨rfl, kdI 9 5 (by decide)⟩) q4_116 (by decide +kernel) rfl, ?_⟩
  refine List.forall_mem_cons.mpr ⟨s_aload_n (j := 0) (by decide +kernel) rfl rfl, ?_⟩
  refine List.forall_mem_cons.mpr ⟨s_getf (idx := 19) (C := RX9) (T := TX9) (N := 54) rfl inX9 (by decide) q4_112 (by decide +kernel) rfl, ?_⟩
  refine List.forall_mem_cons.mpr ⟨s_aload_n (j := 0) (by decide +kernel) rfl rfl, ?_⟩
  refine List.forall_mem_cons.mpr ⟨s_getf (idx := 123) (C := RX9) (T := TX9) (N := 54) rfl inX9 (by decide) q4_116 (by decide +kernel) rfl, ?_⟩
  refine List.forall_mem_cons.mpr ⟨s_iload_n (j := 1) (by decide +kernel) rfl rfl, ?_⟩
  refine List.forall_mem_cons.mpr ⟨s_iast (by decide +kernel) rfl, ?_⟩
  refine List.forall_mem_cons.mpr ⟨s_aload_n (j := 0) (by decide +kernel) rfl rfl, ?_⟩
  refine List.forall_mem_cons.mpr ⟨s_getf (idx := 22) (C := RX9) (T := TX9) (N := 54) rfl inX9 (by decide) q4_113 (by decide +kernel) rfl, ?_⟩
  refine List.forall_mem_cons.mpr ⟨s_aload_n (j := 0) (by decide +kernel) rfl rfl, ?_⟩
  refine List.forall_mem_cons.mpr ⟨s_getf (idx := 123) (C := RX9) (T := TX9) (N := 54) rfl inX9 (by decide) q4_116 (by decide +kernel) rfl, ?_⟩
  refine List.forall_mem_cons.mpr ⟨s_iload_n (j := 3) (by decide +kernel) rfl rfl, ?_⟩
  refine List.forall_mem_cons.mpr ⟨s_iast (by decide +kernel) rfl, ?_⟩
  refine List.forall_mem_cons.mpr ⟨s_aload_n (j := 0) (by decide +kernel) rfl rfl, ?_⟩
  refine List.forall_mem_cons.mpr ⟨s_getf (idx := 25) (C := RX9) (T := TX9) (N := 54) rfl inX9 (by decide) q4_114 (by decide +kernel) rfl, ?_⟩
  refine List.forall_mem_cons.mpr ⟨s_aload_n (j := 0) (by decide +kernel) rfl rfl, ?_⟩
  refine List.forall_mem_cons.mpr ⟨s_getf (idx := 123) (C := RX9) (T := TX9) (N := 54) rfl inX9 (by decide) q4_116 (by decide +kernel) rfl, ?_⟩
  refine List.forall_mem_cons.mpr ⟨s_iload_n (j := 2) (by decide +kernel) rfl rfl, ?_⟩
  refine List.forall_mem_cons.mpr ⟨s_iast (by decide +kernel) rfl, ?_⟩
  refine List.forall_mem_cons.mpr ⟨s_aload_n (j := 0) (by decide +kernel) rfl rfl, ?_⟩
  refine List.forall_mem_cons.mpr ⟨s_dup (by decide +kernel) rfl, ?_⟩
  refine List.forall_mem_cons.mpr ⟨s_getf (idx := 123) (C := RX9) (T := TX9) (N := 54) rfl inX9 (by decide) q4_116 (by decide +kernel) rfl, ?_⟩
  refine List.forall_mem_cons.mpr ⟨s_iconst (by decide +kernel) rfl, ?_⟩
  refine List.forall_mem_cons.mpr ⟨s_iadd (by decide +kernel) rfl, ?_⟩
  refine List.forall_mem_cons.mpr ⟨s_putf (idx := 123) (C := RX9) (T := TX9) (N := 54) rfl inX9 tyX9_ok nmX9 (by decide) rfl (tyX9_ok 5 (by decide)) (Or.inl ⟨rfl, kdI 9 5 (by decide)⟩) q4_116 (by decide +kernel) rfl, ?_⟩
  refine List.forall_mem_cons.mpr ⟨s_aload_n (j := 0) (by decide +kernel) rfl rfl, ?_⟩
  refine List.forall_mem_cons.mpr ⟨s_aload_n (j := 0) (by decide +kernel) rfl rfl, ?_⟩
  refine List.forall_mem_cons.mpr ⟨s_getf (idx := 123) (C := RX9) (T := TX9) (N := 54) rfl inX9 (by decide) q4_116 (by decide +kernel) rfl, ?_⟩
  refine List.forall_mem_cons.mpr ⟨s_putf (idx := 126) (C := RX9) (T := TX9) (N := 54) rfl inX9 tyX9_ok nmX9 (by decide) rfl (tyX9_ok 4 (by decide)) (Or.inl ⟨rfl, kdI 9 4 (by decide)⟩) q4_115 (by decide +kernel) rfl, ?_⟩
  refine List.forall_mem_cons.mpr ⟨s_aload_n (j := 0) (by decide +kernel) rfl rfl, ?_⟩
  refine List.forall_mem_cons.mpr ⟨s_getf (idx := 15) (C := RX9) (T := TX9) (N := 54) rfl inX9 (by decide) q4_111 (by decide +kernel) rfl, ?_⟩
  refine List.forall_mem_cons.mpr ⟨s_iload_n (j := 1) (by decide +kernel) rfl rfl, ?_⟩
  refine List.forall_mem_cons.mpr ⟨s_iload_n (j := 2) (by decide +kernel) rfl rfl, ?_⟩
  refine List.forall_mem_cons.mpr ⟨s_iast (by decide +kernel) rfl, ?_⟩
  refine List.forall_mem_cons.mpr ⟨s_iload_n (j := 3) (by decide +kernel) rfl rfl, ?_⟩
  refine List.forall_mem_cons.mpr ⟨s_iret rfl (by decide +kernel), ?_⟩
  exact fun q hq => absurd hq List.not_mem_nil
def T_X9_undo : List (Nat × zO) := [(0, o_aload 1 0), (1, o_getf 4 9 5), (4, o_if_ne 10 7), (7, o_const 9 (-5)), (9, o_iret), (10, o_aload 11 0), (11, o_dup 12), (12, o_getf 15 9 5), (15, o_const 16 1), (16, o_isub 17), (17, o_putf 20 9 5), (20, o_aload 21 0), (21, o_getf 24 9 0), (24, o_aload 25 0), (25, o_getf 28 9 1), (28, o_aload 29 0), (29, o_getf 32 9 5), (32, o_iald 33), (33, o_aload 34 0), (34, o_getf 37 9 2), (37, o_aload 38 0), (38, o_getf 41 9 5), (41, o_iald 42), (42, o_iast 43), (43, o_aload 44 0), (44, o_getf 47 9 5), (47, o_iret)]
set_option maxRecDepth 20000 in
theorem t_X9_undo : ∀ q ∈ T_X9_undo, zS k_X9_undo q.1 q.2 := by
  unfold T_X9_undo
  refine List.forall_mem_cons.mpr ⟨s_aload_n (j := 0) (by decide +kernel) rfl rfl, ?_⟩
  refine List.forall_mem_cons.mpr ⟨s_getf (idx := 123) (C := RX9) (T := TX9) (N := 54) rfl inX9 (by decide) q4_116 (by decide +kernel) rfl, ?_⟩
  refine List.forall_mem_cons.mpr ⟨s_if_ne (off := 6) (by decide +kernel) (by decide) rfl, ?_⟩
  refine List.forall_mem_cons.mpr ⟨s_bipush (by decide +kernel) (by decide) rfl, ?_⟩
  refine List.forall_mem_cons.mpr ⟨s_iret rfl (by decide +kernel), ?_⟩
  refine List.forall_mem_cons.mpr ⟨s_aload_n (j := 0) (by decide +kernel) rfl rfl, ?_⟩
  refine List.forall_mem_cons.mpr ⟨s_dup (by decide +kernel) rfl, ?_⟩
  refine List.forall_mem_cons.mpr ⟨s_getf (idx := 123) (C := RX9) (T := TX9) (N := 54) rfl inX9 (by decide) q4_116 (by decide +kernel) rfl, ?_⟩
  refine List.forall_mem_cons.mpr ⟨s_iconst (by decide +kernel) rfl, ?_⟩
  refine List.forall_mem_cons.mpr ⟨s_isub (by decide +kernel) rfl, ?_⟩
  refine List.forall_mem_cons.mpr ⟨s_putf (idx := 123) (C := RX9) (T := TX9) (N := 54) rfl inX9 tyX9_ok nmX9 (by decide) rfl (tyX9_ok 5 (by decide)) (Or.inl ⟨rfl, kdI 9 5 (by decide)⟩) q4_116 (by decide +kernel) rfl, ?_⟩
  refine List.forall_mem_cons.mpr ⟨s_aload_n (j := 0) (by decide +kernel) rfl rfl, ?_⟩
  refine List.forall_mem_cons.mpr ⟨s_getf (idx := 15) (C := RX9) (T := TX9) (N := 54) rfl inX9 (by decide) q4_111 (by decide +kernel) rfl, ?_⟩
  refine List.forall_mem_cons.mpr ⟨s_aload_n (j := 0) (by decide +kernel) rfl rfl, ?_⟩
  refine List.forall_mem_cons.mpr ⟨s_getf (idx := 19) (C := RX9) (T := TX9) (N := 54) rfl inX9 (by decide) q4_112 (by decide +kernel) rfl, ?_⟩
  refine List.forall_mem_cons.mpr ⟨s_aload_n (j := 0) (by decide +kernel) rfl rfl, ?_⟩
  refine List.forall_mem_cons.mpr ⟨s_getf (idx := 123) (C := RX9) (T := TX9) (N := 54) rfl inX9 (by decide) q4_116 (by decide +kernel) rfl, ?_⟩
  refine List.forall_mem_cons.mpr ⟨s_iald (by decide +kernel) rfl, ?_⟩
  refine List.forall_mem_cons.mpr ⟨s_aload_n (j := 0) (by decide +kernel) rfl rfl, ?_⟩
  refine List.forall_mem_cons.mpr ⟨s_getf (idx := 22) (C := RX9) (T := TX9) (N := 54) rfl inX9 (by decide) q4_113 (by decide +kernel) rfl, ?_⟩
  refine List.forall_mem_cons.mpr ⟨s_aload_n (j := 0) (by decide +kernel) rfl rfl, ?_⟩
  refine List.forall_mem_cons.mpr ⟨s_getf (idx := 123) (C := RX9) (T := TX9) (N := 54) rfl inX9 (by decide) q4_116 (by decide +kernel) rfl, ?_⟩
  refine List.forall_mem_cons.mpr ⟨s_iald (by decide +kernel) rfl, ?_⟩
  refine List.forall_mem_cons.mpr ⟨s_iast (by decide +kernel) rfl, ?_⟩
  refine List.forall_mem_cons.mpr ⟨s_aload_n (j := 0) (by decide +kernel) rfl rfl, ?_⟩
  refine List.forall_mem_cons.mpr ⟨s_getf (idx := 123) (C := RX9) (T := TX9) (N := 54) rfl inX9 (by decide) q4_116 (by decide +kernel) rfl, ?_⟩
  refine List.forall_mem_cons.mpr ⟨s_iret rfl (by decide +kernel), ?_⟩
  exact fun q hq => absurd hq List.not_mem_nil
def T_X9_redo : List (Nat × zO) := [(0, o_aload 1 0), (1, o_getf 4 9 5), (4, o_aload 5 0), (5, o_getf 8 9 4), (8, o_icmp_ne 14 11), (11, o_const 13 (-5)), (13, o_iret), (14, o_aload 15 0), (15, o_getf 18 9 0), (18, o_aload 19 0), (19, o_getf 22 9 1), (22, o_aload 23 0), (23, o_getf 26 9 5), (26, o_iald 27), (27, o_aload 28 0), (28, o_getf 31 9 3), (31, o_aload 32 0), (32, o_getf 35 9 5), (35, o_iald 36), (36, o_iast 37), (37, o_aload 38 0), (38, o_dup 39), (39, o_getf 42 9 5), (42, o_const 43 1), (43, o_iadd 44), (44, o_putf 47 9 5), (47, o_aload 48 0), (48, o_getf 51 9 4), (51, o_aload 52 0), (52, o_getf 55 9 5), (55, o_isub 56), (56, o_iret)]
set_option maxRecDepth 20000 in
theorem t_X9_redo : ∀ q ∈ T_X9_redo, zS k_X9_redo q.1 q.2 := by
  unfold T_X9_redo
  refine List.forall_mem_cons.mpr ⟨s_aload_n (j := 0) (by decide +kernel) rfl rfl, ?_⟩
  refine List.forall_mem_cons.mpr ⟨s_getf (idx := 123) (C := RX9) (T := TX9) (N := 54) rfl inX9 (by decide) q4_116 (by decide +kernel) rfl, ?_⟩
  refine List.forall_mem_cons.mpr ⟨s_aload_n (j := 0) (by decide +kernel) rfl rfl, ?_⟩
  refine List.forall_mem_cons.mpr ⟨s_getf (idx := 126) (C := RX9) (T := TX9) (N := 54) rfl inX9 (by decide) q4_115 (by decide +kernel) rfl, ?_⟩
  refine List.forall_mem_cons.mpr ⟨s_icmp_ne (off := 6) (by decide +kernel) (by decide) rfl, ?_⟩
  refine List.forall_mem_cons.mpr ⟨s_bipush (by decide +kernel) (by decide) rfl, ?_⟩
  refine List.forall_mem_cons.mpr ⟨s_iret rfl (by decide +kernel), ?_⟩
  refine List.forall_mem_cons.mpr ⟨s_aload_n (j := 0) (by decide +kernel) rfl rfl, ?_⟩
  refine List.forall_mem_cons.mpr ⟨s_getf (idx := 15) (C := RX9) (T := TX9) (N := 54) rfl inX9 (by decide) q4_111 (by decide +kernel) rfl, ?_⟩
  refine List.forall_mem_cons.mpr ⟨s_aload_n (j := 0) (by decide +kernel) rfl rfl, ?_⟩
  refine List.forall_mem_cons.mpr ⟨s_getf (idx := 19) (C := RX9) (T := TX9) (N := 54) rfl inX9 (by decide) q4_112 (by decide +kernel) rfl, ?_⟩
  refine List.forall_mem_cons.mpr ⟨s_aload_n (j := 0) (by decide +kernel) rfl rfl, ?_⟩
  refine List.forall_mem_cons.mpr ⟨s_getf (idx := 123) (C := RX9) (T := TX9) (N := 54) rfl inX9 (by decide) q4_116 (by decide +kernel) rfl, ?_⟩
  refine List.forall_mem_cons.mpr ⟨s_iald (by decide +kernel) rfl, ?_⟩
  refine List.forall_mem_cons.mpr ⟨s_aload_n (j := 0) (by decide +kernel) rfl rfl, ?_⟩
  refine List.forall_mem_cons.mpr ⟨s_getf (idx := 25) (C := RX9) (T := TX9) (N := 54) rfl inX9 (by decide) q4_114 (by decide +kernel) rfl, ?_⟩
  refine List.forall_mem_cons.mpr ⟨s_aload_n (j := 0) (by decide +kernel) rfl rfl, ?_⟩
  refine List.forall_mem_cons.mpr ⟨s_getf (idx := 123) (C := RX9) (T := TX9) (N := 54) rfl inX9 (by decide) q4_116 (by decide +kernel) rfl, ?_⟩
  refine List.forall_mem_cons.mpr ⟨s_iald (by decide +kernel) rfl, ?_⟩
  refine List.forall_mem_cons.mpr ⟨s_iast (by decide +kernel) rfl, ?_⟩
  refine List.forall_mem_cons.mpr ⟨s_aload_n (j := 0) (by decide +kernel) rfl rfl, ?_⟩
  refine List.forall_mem_cons.mpr ⟨s_dup (by decide +kernel) rfl, ?_⟩
  refine List.forall_mem_cons.mpr ⟨s_getf (idx := 123) (C := RX9) (T := TX9) (N := 54) rfl inX9 (by decide) q4_116 (by decide +kernel) rfl, ?_⟩
  refine List.forall_mem_cons.mpr ⟨s_iconst (by decide +kernel) rfl, ?_⟩
  refine List.forall_mem_cons.mpr ⟨s_iadd (by decide +kernel) rfl, ?_⟩
  refine List.forall_mem_cons.mpr ⟨s_putf (idx := 123) (C := RX9) (T := TX9) (N := 54) rfl inX9 tyX9_ok nmX9 (by decide) rfl (tyX9_ok 5 (by decide)) (Or.inl ⟨rfl, kdI 9 5 (by decide)⟩) q4_116 (by decide +kernel) rfl, ?_⟩
  refine List.forall_mem_cons.mpr ⟨s_aload_n (j := 0) (by decide +kernel) rfl rfl, ?_⟩
  refine List.forall_mem_cons.mpr ⟨s_getf (idx := 126) (C := RX9) (T := TX9) (N := 54) rfl inX9 (by decide) q4_115 (by decide +kernel) rfl, ?_⟩
  refine List.forall_mem_cons.mpr ⟨s_aload_n (j := 0) (by decide +kernel) rfl rfl, ?_⟩
  refine List.forall_mem_cons.mpr ⟨s_getf (idx := 123) (C := RX9) (T := TX9) (N := 54) rfl inX9 (by decide) q4_116 (by decide +kernel) rfl, ?_⟩
  refine List.forall_mem_cons.mpr ⟨s_isub (by decide +kernel) rfl, ?_⟩
  refine List.forall_mem_cons.mpr ⟨s_iret rfl (by decide +kernel), ?_⟩
  exact fun q hq => absurd hq List.not_mem_nil
def T_X9_feed : List (Nat × zO) := [(0, o_iload 1 1), (1, o_i2l 2), (2, o_lconst 3 1), (3, o_lconst 6 (4)), (6, o_calls 3 k_X9_within 9), (9, o_if_ne 14 12), (12, o_const 13 (-1)), (13, o_iret), (14, o_aload 15 0), (15, o_getf 18 9 7), (18, o_iload 19 1), (19, o_iadd 20), (20, o_const 22 120), (22, o_icmp_le 28 25), (25, o_const 27 (-3)), (27, o_iret), (28, o_const 29 0), (29, o_istore 30 3), (30, o_iload 31 3), (31, o_iload 32 1), (32, o_icmp_ge 70 35), (35, o_aload 36 0), (36, o_getf 39 9 6), (39, o_aload 40 0), (40, o_getf 43 9 7), (43, o_iload 44 2), (44, o_const 46 8), (46, o_iload 47 3), (47, o_imul 48), (48, o_ishr 49), (49, o_const 52 255), (52, o_iand 53), (53, o_iast 54), (54, o_aload 55 0), (55, o_dup 56), (56, o_getf 59 9 7), (59, o_const 60 1), (60, o_iadd 61), (61, o_putf 64 9 7), (64, o_iinc 67 3 1), (67, o_goto 30), (70, o_aload 71 0), (71, o_getf 74 9 7), (74, o_iret)]
set_option maxRecDepth 20000 in
theorem t_X9_feed : ∀ q ∈ T_X9_feed, zS k_X9_feed q.1 q.2 := by
  unfold T_X9_feed
  refine List.forall_mem_cons.mpr ⟨s_iload_n (j := 1) (by decide +kernel) rfl rfl, ?_⟩
  refine List.forall_mem_cons.mpr ⟨s_i2l (by decide +kernel) rfl, ?_⟩
  refine List.forall_mem_cons.mpr ⟨s_lconst (z := 1) (by decide +kernel) (by decide) rfl, ?_⟩
  refine List.forall_mem_cons.mpr ⟨s_ldc2 (idx := 129) (y := (4)) (by decide +kernel) q5_47 rfl, ?_⟩
  refine List.forall_mem_cons.mpr ⟨s_calls (idx := 5) (k' := k_X9_within) q5_50 q5_48 q5_49 q1_10 de_X9_within (by decide) (by decide +kernel) rfl, ?_⟩
  refine List.forall_mem_cons.mpr ⟨s_if_ne (off := 5) (by decide +kernel) (by decide) rfl, ?_⟩
  refine List.forall_mem_cons.mpr ⟨s_iconst (by decide +kernel) rfl, ?_⟩
  refine List.forall_mem_cons.mpr ⟨s_iret rfl (by decide +kernel), ?_⟩
  refine List.forall_mem_cons.mpr ⟨s_aload_n (j := 0) (by decide +kernel) rfl rfl, ?_⟩
  refine List.forall_mem_cons.mpr ⟨s_getf (idx := 131) (C := RX9) (T := TX9) (N := 54) rfl inX9 (by decide) q4_118 (by decide +kernel) rfl, ?_⟩
  refine List.forall_mem_cons.mpr ⟨s_iload_n (j := 1) (by decide +kernel) rfl rfl, ?_⟩
  refine List.forall_mem_cons.mpr ⟨s_iadd (by decide +kernel) rfl, ?_⟩
  refine List.forall_mem_cons.mpr ⟨s_bipush (by decide +kernel) (by decide) rfl, ?_⟩
  refine List.forall_mem_cons.mpr ⟨s_icmp_le (off := 6) (by decide +kernel) (by decide) rfl, ?_⟩
  refine List.forall_mem_cons.mpr ⟨s_bipush (by decide +kernel) (by decide) rfl, ?_⟩
  refine List.forall_mem_cons.mpr ⟨s_iret rfl (by decide +kernel), ?_⟩
  refine List.forall_mem_cons.mpr ⟨s_iconst (by decide +kernel) rfl, ?_⟩
  refine List.forall_mem_cons.mpr ⟨s_istore_n (j := 3) (by decide +kernel) rfl (by decide) rfl, ?_⟩
  refine List.forall_mem_cons.mpr ⟨s_iload_n (j := 3) (by decide +kernel) rfl rfl, ?_⟩
  refine List.forall_mem_cons.mpr ⟨s_iload_n (j := 1) (by decide +kernel) rfl rfl, ?_⟩
  refine List.forall_mem_cons.mpr ⟨s_icmp_ge (off := 38) (by decide +kernel) (by decide) rfl, ?_⟩
  refine List.forall_mem_cons.mpr ⟨s_aload_n (j := 0) (by decide +kernel) rfl rfl, ?_⟩
  refine List.forall_mem_cons.mpr ⟨s_getf (idx := 28) (C := RX9) (T := TX9) (N := 54) rfl inX9 (by decide) q4_117 (by decide +kernel) rfl, ?_⟩
  refine List.forall_mem_cons.mpr ⟨s_aload_n (j := 0) (by decide +kernel) rfl rfl, ?_⟩
  refine List.forall_mem_cons.mpr ⟨s_getf (idx := 131) (C := RX9) (T := TX9) (N := 54) rfl inX9 (by decide) q4_118 (by decide +kernel) rfl, ?_⟩
  refine List.forall_mem_cons.mpr ⟨s_iload_n (j := 2) (by decide +kernel) rfl rfl, ?_⟩
  refine List.forall_mem_cons.mpr ⟨s_bipush (by decide +kernel) (by decide) rfl, ?_⟩
  refine List.forall_mem_cons.mpr ⟨s_iload_n (j := 3) (by decide +kernel) rfl rfl, ?_⟩
  refine List.forall_mem_cons.mpr ⟨s_imul (by decide +kernel) rfl, ?_⟩
  refine List.forall_mem_cons.mpr ⟨s_ishr (by decide +kernel) rfl, ?_⟩
  refine List.forall_mem_cons.mpr ⟨s_sipush (by decide +kernel) (by decide) rfl, ?_⟩
  refine List.forall_mem_cons.mpr ⟨s_iand (by decide +kernel) rfl, ?_⟩
  refine List.forall_mem_cons.mpr ⟨s_iast (by decide +kernel) rfl, ?_⟩
  refine List.forall_mem_cons.mpr ⟨s_aload_n (j := 0) (by decide +kernel) rfl rfl, ?_⟩
  refine List.forall_mem_cons.mpr ⟨s_dup (by decide +kernel) rfl, ?_⟩
  refine List.forall_mem_cons.mpr ⟨s_getf (idx := 131) (C := RX9) (T := TX9) (N := 54) rfl inX9 (by decide) q4_118 (by decide +kernel) rfl, ?_⟩
  refine List.forall_mem_cons.mpr ⟨s_iconst (by decide +kernel) rfl, ?_⟩
  refine List.forall_mem_cons.mpr ⟨s_iadd (by decide +kernel) rfl, ?_⟩
  refine List.forall_mem_cons.mpr ⟨s_putf (idx := 131) (C := RX9) (T := TX9) (N := 54) rfl inX9 tyX9_ok nmX9 (by decide) rfl (tyX9_ok 7 (by decide)) (Or.inl ⟨rfl, kdI 9 7 (by decide)⟩) q4_118 (by decide +kernel) rfl, ?_⟩
  refine List.forall_mem_cons.mpr ⟨s_iinc (by decide +kernel) (by decide) rfl, ?_⟩
  refine List.forall_mem_cons.mpr ⟨s_goto (off := (-37)) (by decide +kernel) (by decide), ?_⟩
  refine List.forall_mem_cons.mpr ⟨s_aload_n (j := 0) (by decide +kernel) rfl rfl, ?_⟩
  refine List.forall_mem_cons.mpr ⟨s_getf (idx := 131) (C := RX9) (T := TX9) (N := 54) rfl inX9 (by decide) q4_118 (by decide +kernel) rfl, ?_⟩
  refine List.forall_mem_cons.mpr ⟨s_iret rfl (by decide +kernel), ?_⟩
  exact fun q hq => absurd hq List.not_mem_nil
def T_X9_byteAt : List (Nat × zO) := [(0, o_aload 1 0), (1, o_getf 4 9 15), (4, o_aload 5 0), (5, o_getf 8 9 7), (8, o_icmp_ge 23 11), (11, o_aload 12 0), (12, o_getf 15 9 6), (15, o_aload 16 0), (16, o_getf 19 9 15), (19, o_iald 20), (20, o_goto 24), (23, o_const 24 (-1)), (24, o_iret)]
set_option maxRecDepth 20000 in
theorem t_X9_byteAt : ∀ q ∈ T_X9_byteAt, zS k_X9_byteAt q.1 q.2 := by
  unfold T_X9_byteAt
  refine List.forall_mem_cons.mpr ⟨s_aload_n (j := 0) (by decide +kernel) rfl rfl, ?_⟩
  refine List.forall_mem_cons.mpr ⟨s_getf (idx := 134) (C := RX9) (T := TX9) (N := 54) rfl inX9 (by decide) q4_126 (by decide +kernel) rfl, ?_⟩
  refine List.forall_mem_cons.mpr ⟨s_aload_n (j := 0) (by decide +kernel) rfl rfl, ?_⟩
  refine List.forall_mem_cons.mpr ⟨s_getf (idx := 131) (C := RX9) (T := TX9) (N := 54) rfl inX9 (by decide) q4_118 (by decide +kernel) rfl, ?_⟩
  refine List.forall_mem_cons.mpr ⟨s_icmp_ge (off := 15) (by decide +kernel) (by decide) rfl, ?_⟩
  refine List.forall_mem_cons.mpr ⟨s_aload_n (j := 0) (by decide +kernel) rfl rfl, ?_⟩
  refine List.forall_mem_cons.mpr ⟨s_getf (idx := 28) (C := RX9) (T := TX9) (N := 54) rfl inX9 (by decide) q4_117 (by decide +kernel) rfl, ?_⟩
  refine List.forall_mem_cons.mpr ⟨s_aload_n (j := 0) (by decide +kernel) rfl rfl, ?_⟩
  refine List.forall_mem_cons.mpr ⟨s_getf (idx := 134) (C := RX9) (T := TX9) (N := 54) rfl inX9 (by decide) q4_126 (by decide +kernel) rfl, ?_⟩
  refine List.forall_mem_cons.mpr ⟨s_iald (by decide +kernel) rfl, ?_⟩
  refine List.forall_mem_cons.mpr ⟨s_goto (off := 4) (by decide +kernel) (by decide), ?_⟩
  refine List.forall_mem_cons.mpr ⟨s_iconst (by decide +kernel) rfl, ?_⟩
  refine List.forall_mem_cons.mpr ⟨s_iret rfl (by decide +kernel), ?_⟩
  exact fun q hq => absurd hq List.not_mem_nil
def T_X9_number : List (Nat × zO) := [(0, o_aload 1 0), (1, o_getf 4 9 15), (4, o_istore 6 4), (6, o_const 7 0), (7, o_istore 9 5), (9, o_aload 10 0), (10, o_getf 13 9 15), (13, o_iload 15 4), (15, o_iload 16 1), (16, o_iadd 17), (17, o_icmp_ge 66 20), (20, o_aload 21 0), (21, o_callv 0 9 k_X9_byteAt 24), (24, o_const 26 48), (26, o_icmp_lt 66 29), (29, o_aload 30 0), (30, o_callv 0 9 k_X9_byteAt 33), (33, o_const 35 57), (35, o_icmp_gt 66 38), (38, o_const 40 10), (40, o_iload 42 5), (42, o_imul 43), (43, o_aload 44 0), (44, o_callv 0 9 k_X9_byteAt 47), (47, o_iadd 48), (48, o_const 50 48), (50, o_isub 51), (51, o_istore 53 5), (53, o_aload 54 0), (54, o_dup 55), (55, o_getf 58 9 15), (58, o_const 59 1), (59, o_iadd 60), (60, o_putf 63 9 15), (63, o_goto 9), (66, o_aload 67 0), (67, o_getf 70 9 15), (70, o_iload 72 4), (72, o_icmp_ne 77 75), (75, o_const 76 (-1)), (76, o_iret), (77, o_iload 79 5), (79, o_iload 80 2), (80, o_icmp_le 89 83), (83, o_iload 85 5), (85, o_iload 86 3), (86, o_icmp_le 97 89), (89, o_aload 90 0), (90, o_iload 92 4), (92, o_putf 95 9 15), (95, o_const 96 (-1)), (96, o_iret), (97, o_iload 99 5), (99, o_iret)]
set_option maxRecDepth 20000 in
theorem t_X9_number : ∀ q ∈ T_X9_number, zS k_X9_number q.1 q.2 := by
  unfold T_X9_number
  refine List.forall_mem_cons.mpr ⟨s_aload_n (j := 0) (by decide +kernel) rfl rfl, ?_⟩
  refine List.forall_mem_cons.mpr ⟨s_getf (idx := 134) (C := RX9) (T := TX9) (N := 54) rfl inX9 (by decide) q4_126 (by decide +kernel) rfl, ?_⟩
  refine List.forall_mem_cons.mpr ⟨s_istore (by decide +kernel) (by decide) rfl, ?_⟩
  refine List.forall_mem_cons.mpr ⟨s_iconst (by decide +kernel) rfl, ?_⟩
  refine List.forall_mem_cons.mpr ⟨s_istore (by decide +kernel) (by decide) rfl, ?_⟩
  refine List.forall_mem_cons.mpr ⟨s_aload_n (j := 0) (by decide +kernel) rfl rfl, ?_⟩
  refine List.forall_mem_cons.mpr ⟨s_getf (idx := 134) (C := RX9) (T := TX9) (N := 54) rfl inX9 (by decide) q4_126 (by decide +kernel) rfl, ?_⟩
  refine List.forall_mem_cons.mpr ⟨s_iload (by decide +kernel) rfl, ?_⟩
  refine List.forall_mem_cons.mpr ⟨s_iload_n (j := 1) (by decide +kernel) rfl rfl, ?_⟩
  refine List.forall_mem_cons.mpr ⟨s_iadd (by decide +kernel) rfl, ?_⟩
  refine List.forall_mem_cons.mpr ⟨s_icmp_ge (off := 49) (by decide +kernel) (by decide) rfl, ?_⟩
  refine List.forall_mem_cons.mpr ⟨s_aload_n (j := 0) (by decide +kernel) rfl rfl, ?_⟩
  refine List.forall_mem_cons.mpr ⟨s_callv (idx := 137) (k' := k_X9_byteAt) (T := TX9) (N := 54) rfl q5_66 q5_63 q5_65 qs_33 q1_10 de_X9_byteAt (by decide) (by decide +kernel) rfl, ?_⟩
  refine List.forall_mem_cons.mpr ⟨s_bipush (by decide +kernel) (by decide) rfl, ?_⟩
  refine List.forall_mem_cons.mpr ⟨s_icmp_lt (off := 40) (by decide +kernel) (by decide) rfl, ?_⟩
  refine List.forall_mem_cons.mpr ⟨s_aload_n (j := 0) (by decide +kernel) rfl rfl, ?_⟩
  refine List.forall_mem_cons.mpr ⟨s_callv (idx := 137) (k' := k_X9_byteAt) (T := TX9) (N := 54) rfl q5_66 q5_63 q5_65 qs_33 q1_10 de_X9_byteAt (by decide) (by decide +kernel) rfl, ?_⟩
  refine List.forall_mem_cons.mpr ⟨s_bipush (by decide +kernel) (by decide) rfl, ?_⟩
  refine List.forall_mem_cons.mpr ⟨s_icmp_gt (off := 31) (by decide +kernel) (by decide) rfl, ?_⟩
  refine List.forall_mem_cons.mpr ⟨s_bipush (by decide +kernel) (by decide) rfl, ?_⟩
  refine List.forall_mem_cons.mpr ⟨s_iload (by decide +kernel) rfl, ?_⟩
  refine List.forall_mem_cons.mpr ⟨s_imul (by decide +kernel) rfl, ?_⟩
  refine List.forall_mem_cons.mpr ⟨s_aload_n (j := 0) (by decide +kernel) rfl rfl, ?_⟩
  refine List.forall_mem_cons.mpr ⟨s_callv (idx := 137) (k' := k_X9_byteAt) (T := TX9) (N := 54) rfl q5_66 q5_63 q5_65 qs_33 q1_10 de_X9_byteAt (by decide) (by decide +kernel) rfl, ?_⟩
  refine List.forall_mem_cons.mpr ⟨s_iadd (by decide +kernel) rfl, ?_⟩
  refine List.forall_mem_cons.mpr ⟨s_bipush (by decide +kernel) (by decide) rfl, ?_⟩
  refine List.forall_mem_cons.mpr ⟨s_isub (by decide +kernel) rfl, ?_⟩
  refine List.forall_mem_cons.mpr ⟨s_istore (by decide +kernel) (by decide) rfl, ?_⟩
  refine List.forall_mem_cons.mpr ⟨s_aload_n (j := 0) (by decide +kernel) rfl rfl, ?_⟩
  refine List.forall_mem_cons.mpr ⟨s_dup (by decide +kernel) rfl, ?_⟩
  refine List.forall_mem_cons.mpr ⟨s_getf (idx := 134) (C := RX9) (T := TX9) (N := 54) rfl inX9 (by decide) q4_126 (by decide +kernel) rfl, ?_⟩
  refine List.forall_mem_cons.mpr ⟨s_iconst (by decide +kernel) rfl, ?_⟩
  refine List.forall_mem_cons.mpr ⟨s_iadd (by decide +kernel) rfl, ?_⟩
  refine List.forall_mem_cons.mpr ⟨s_putf (idx := 134) (C := RX9) (T := TX9) (N := 54) rfl inX9 tyX9_ok nmX9 (by decide) rfl (tyX9_ok 15 (by decide)) (Or.inl ⟨rfl, kdI 9 15 (by decide)⟩) q4_126 (by decide +kernel) rfl, ?_⟩
  refine List.forall_mem_cons.mpr ⟨s_goto (off := (-54)) (by decide +kernel) (by decide), ?_⟩
  refine List.forall_mem_cons.mpr ⟨s_aload_n (j := 0) (by decide +kernel) rfl rfl, ?_⟩
  refine List.forall_mem_cons.mpr ⟨s_getf (idx := 134) (C := RX9) (T := TX9) (N := 54) rfl inX9 (by decide) q4_126 (by decide +kernel) rfl, ?_⟩
  refine List.forall_mem_cons.mpr ⟨s_iload (by decide +kernel) rfl, ?_⟩
  refine List.forall_mem_cons.mpr ⟨s_icmp_ne (off := 5) (by decide +kernel) (by decide) rfl, ?_⟩
  refine List.forall_mem_cons.mpr ⟨s_iconst (by decide +kernel) rfl, ?_⟩
  refine List.forall_mem_cons.mpr ⟨s_iret rfl (by decide +kernel), ?_⟩
  refine List.forall_mem_cons.mpr ⟨s_iload (by decide +kernel) rfl, ?_⟩
  refine List.forall_mem_cons.mpr ⟨s_iload_n (j := 2) (by decide +kernel) rfl rfl, ?_⟩
  refine List.forall_mem_cons.mpr ⟨s_icmp_le (off := 9) (by decide +kernel) (by decide) rfl, ?_⟩
  refine List.forall_mem_cons.mpr ⟨s_iload (by decide +kernel) rfl, ?_⟩
  refine List.forall_mem_cons.mpr ⟨s_iload_n (j := 3) (by decide +kernel) rfl rfl, ?_⟩
  refine List.forall_mem_cons.mpr ⟨s_icmp_le (off := 11) (by decide +kernel) (by decide) rfl, ?_⟩
  refine List.forall_mem_cons.mpr ⟨s_aload_n (j := 0) (by decide +kernel) rfl rfl, ?_⟩
  refine List.forall_mem_cons.mpr ⟨s_iload (by decide +kernel) rfl, ?_⟩
  refine List.forall_mem_cons.mpr ⟨s_putf (idx := 134) (C := RX9) (T := TX9) (N := 54) rfl inX9 tyX9_ok nmX9 (by decide) rfl (tyX9_ok 15 (by decide)) (Or.inl ⟨rfl, kdI 9 15 (by decide)⟩) q4_126 (by decide +kernel) rfl, ?_⟩
  refine List.forall_mem_cons.mpr ⟨s_iconst (by decide +kernel) rfl, ?_⟩
  refine List.forall_mem_cons.mpr ⟨s_iret rfl (by decide +kernel), ?_⟩
  refine List.forall_mem_cons.mpr ⟨s_iload (by decide +kernel) rfl, ?_⟩
  refine List.forall_mem_cons.mpr ⟨s_iret rfl (by decide +kernel), ?_⟩
  exact fun q hq => absurd hq List.not_mem_nil
def T_X9_readPoints : List (Nat × zO) := [(0, o_aload 1 0), (1, o_const 2 0), (2, o_putf 5 9 15), (5, o_aload 6 0), (6, o_const 7 0), (7, o_putf 10 9 14), (10, o_const 11 (-1)), (11, o_istore 12 1), (12, o_aload 13 0), (13, o_const 14 4), (14, o_iload 15 1), (15, o_const 18 1439), (18, o_callv 3 9 k_X9_number 21), (21, o_istore 22 2), (22, o_iload 23 2), (23, o_if_lt 35 26), (26, o_aload 27 0), (27, o_callv 0 9 k_X9_byteAt 30), (30, o_const 32 58), (32, o_icmp_eq 37 35), (35, o_const 36 0), (36, o_zret), (37, o_aload 38 0), (38, o_dup 39), (39, o_getf 42 9 15), (42, o_const 43 1), (43, o_iadd 44), (44, o_putf 47 9 15), (47, o_aload 48 0), (48, o_const 49 3), (49, o_const 50 (-1)), (50, o_const 53 999), (53, o_callv 3 9 k_X9_number 56), (56, o_istore 57 3), (57, o_iload 58 3), (58, o_if_ge 63 61), (61, o_const 62 0), (62, o_zret), (63, o_aload 64 0), (64, o_getf 67 9 12), (67, o_aload 68 0), (68, o_getf 71 9 14), (71, o_iload 72 2), (72, o_iast 73), (73, o_aload 74 0), (74, o_getf 77 9 13), (77, o_aload 78 0), (78, o_getf 81 9 14), (81, o_iload 82 3), (82, o_iast 83), (83, o_aload 84 0), (84, o_dup 85), (85, o_getf 88 9 14), (88, o_const 89 1), (89, o_iadd 90), (90, o_putf 93 9 14), (93, o_iload 94 2), (94, o_istore 95 1), (95, o_aload 96 0), (96, o_getf 99 9 15), (99, o_aload 100 0), (100, o_getf 103 9 7), (103, o_icmp_ne 108 106), (106, o_const 107 1), (107, o_zret), (108, o_aload 109 0), (109, o_callv 0 9 k_X9_byteAt 112), (112, o_const 114 59), (114, o_icmp_ne 126 117), (117, o_aload 118 0), (118, o_getf 121 9 14), (121, o_const 123 12), (123, o_icmp_ne 128 126), (126, o_const 127 0), (127, o_zret), (128, o_aload 129 0), (129, o_dup 130), (130, o_getf 133 9 15), (133, o_const 134 1), (134, o_iadd 135), (135, o_putf 138 9 15), (138, o_goto 12)]
set_option maxRecDepth 20000 in
theorem t_X9_readPoints : ∀ q ∈ T_X9_readPoints, zS k_X9_readPoints q.1 q.2 := by
  unfold T_X9_readPoints
  refine List.forall_mem_cons.mpr ⟨s_aload_n (j := 0) (by decide +kernel) rfl rfl, ?_⟩
  refine List.forall_mem_cons.mpr ⟨s_iconst (by decide +kernel) rfl, ?_⟩
  refine List.forall_mem_cons.mpr ⟨s_putf (idx := 134) (C := RX9) (T := TX9) (N := 54) rfl inX9 tyX9_ok nmX9 (by decide) rfl (tyX9_ok 15 (by decide)) (Or.inl ⟨rfl, kdI 9 15 (by decide)⟩) q4_126 (by decide +kernel) rfl, ?_⟩
  refine List.forall_mem_cons.mpr ⟨s_aload_n (j := 0) (by decide +kernel) rfl rfl, ?_⟩
  refine List.forall_mem_cons.mpr ⟨s_iconst (by decide +kernel) rfl, ?_⟩
  refine List.forall_mem_cons.mpr ⟨s_putf (idx := 141) (C := RX9) (T := TX9) (N := 54) rfl inX9 tyX9_ok nmX9 (by decide) rfl (tyX9_ok 14 (by decide)) (Or.inl ⟨rfl, kdI 9 14 (by decide)⟩) q4_125 (by decide +kernel) rfl, ?_⟩
  refine List.forall_mem_cons.mpr ⟨s_iconst (by decide +kernel) rfl, ?_⟩
  refine List.forall_mem_cons.mpr ⟨s_istore_n (j := 1) (by decide +kernel) rfl (by decide) rfl, ?_⟩
  refine List.forall_mem_cons.mpr ⟨s_aload_n (j := 0) (by decide +kernel) rfl rfl, ?_⟩
  refine List.forall_mem_cons.mpr ⟨s_iconst (by decide +kernel) rfl, ?_⟩
  refine List.forall_mem_cons.mpr ⟨s_iload_n (j := 1) (by decide +kernel) rfl rfl, ?_⟩
  refine List.forall_mem_cons.mpr ⟨s_sipush (by decide +kernel) (by decide) rfl, ?_⟩
  refine List.forall_mem_cons.mpr ⟨s_callv (idx := 144) (k' := k_X9_number) (T := TX9) (N := 54) rfl q5_62 q5_59 q5_61 qs_32 q1_10 de_X9_number (by decide) (by decide +kernel) rfl, ?_⟩
  refine List.forall_mem_cons.mpr ⟨s_istore_n (j := 2) (by decide +kernel) rfl (by decide) rfl, ?_⟩
  refine List.forall_mem_cons.mpr ⟨s_iload_n (j := 2) (by decide +kernel) rfl rfl, ?_⟩
  refine List.forall_mem_cons.mpr ⟨s_if_lt (off := 12) (by decide +kernel) (by decide) rfl, ?_⟩
  refine List.forall_mem_cons.mpr ⟨s_aload_n (j := 0) (by decide +kernel) rfl rfl, ?_⟩
  refine List.forall_mem_cons.mpr ⟨s_callv (idx := 137) (k' := k_X9_byteAt) (T := TX9) (N := 54) rfl q5_66 q5_63 q5_65 qs_33 q1_10 de_X9_byteAt (by decide) (by decide +kernel) rfl, ?_⟩
  refine List.forall_mem_cons.mpr ⟨s_bipush (by decide +kernel) (by decide) rfl, ?_⟩
  refine List.forall_mem_cons.mpr ⟨s_icmp_eq (off := 5) (by decide +kernel) (by decide) rfl, ?_⟩
  refine List.forall_mem_cons.mpr ⟨s_iconst (by decide +kernel) rfl, ?_⟩
  refine List.forall_mem_cons.mpr ⟨s_zret rfl (by decide +kernel), ?_⟩
  refine List.forall_mem_cons.mpr ⟨s_aload_n (j := 0) (by decide +kernel) rfl rfl, ?_⟩
  refine List.forall_mem_cons.mpr ⟨s_dup (by decide +kernel) rfl, ?_⟩
  refine List.forall_mem_cons.mpr ⟨s_getf (idx := 134) (C := RX9) (T := TX9) (N := 54) rfl inX9 (by decide) q4_126 (by decide +kernel) rfl, ?_⟩
  refine List.forall_mem_cons.mpr ⟨s_iconst (by decide +kernel) rfl, ?_⟩
  refine List.forall_mem_cons.mpr ⟨s_iadd (by decide +kernel) rfl, ?_⟩
  refine List.forall_mem_cons.mpr ⟨s_putf (idx := 134) (C := RX9) (T := TX9) (N := 54) rfl inX9 tyX9_ok nmX9 (by decide) rfl (tyX9_ok 15 (by decide)) (Or.inl ⟨rfl, kdI 9 15 (by decide)⟩) q4_126 (by decide +kernel) rfl, ?_⟩
  refine List.forall_mem_cons.mpr ⟨s_aload_n (j := 0) (by decide +kernel) rfl rfl, ?_⟩
  refine List.forall_mem_cons.mpr ⟨s_iconst (by decide +kernel) rfl, ?_⟩
  refine List.forall_mem_cons.mpr ⟨s_iconst (by decide +kernel) rfl, ?_⟩
  refine List.forall_mem_cons.mpr ⟨s_sipush (by decide +kernel) (by decide) rfl, ?_⟩
  refine List.forall_mem_cons.mpr ⟨s_callv (idx := 144) (k' := k_X9_number) (T := TX9) (N := 54) rfl q5_62 q5_59 q5_61 qs_32 q1_10 de_X9_number (by decide) (by decide +kernel) rfl, ?_⟩
  refine List.forall_mem_cons.mpr ⟨s_istore_n (j := 3) (by decide +kernel) rfl (by decide) rfl, ?_⟩
  refine List.forall_mem_cons.mpr ⟨s_iload_n (j := 3) (by decide +kernel) rfl rfl, ?_⟩
  refine List.forall_mem_cons.mpr ⟨s_if_ge (off := 5) (by decide +kernel) (by decide) rfl, ?_⟩
  refine List.forall_mem_cons.mpr ⟨s_iconst (by decide +kernel) rfl, ?_⟩
  refine List.forall_mem_cons.mpr ⟨s_zret rfl (by decide +kernel), ?_⟩
  refine List.forall_mem_cons.mpr ⟨s_aload_n (j := 0) (by decide +kernel) rfl rfl, ?_⟩
  refine List.forall_mem_cons.mpr ⟨s_getf (idx := 40) (C := RX9) (T := TX9) (N := 54) rfl inX9 (by decide) q4_123 (by decide +kernel) rfl, ?_⟩
  refine List.forall_mem_cons.mpr ⟨s_aload_n (j := 0) (by decide +kernel) rfl rfl, ?_⟩
  refine List.forall_mem_cons.mpr ⟨s_getf (idx := 141) (C := RX9) (T := TX9) (N := 54) rfl inX9 (by decide) q4_125 (by decide +kernel) rfl, ?_⟩
  refine List.forall_mem_cons.mpr ⟨s_iload_n (j := 2) (by decide +kernel) rfl rfl, ?_⟩
  refine List.forall_mem_cons.mpr ⟨s_iast (by decide +kernel) rfl, ?_⟩
  refine List.forall_mem_cons.mpr ⟨s_aload_n (j := 0) (by decide +kernel) rfl rfl, ?_⟩
  refine List.forall_mem_cons.mpr ⟨s_getf (idx := 43) (C := RX9) (T := TX9) (N := 54) rfl inX9 (by decide) q4_124 (by decide +kernel) rfl, ?_⟩
  refine List.forall_mem_cons.mpr ⟨s_aload_n (j := 0) (by decide +kernel) rfl rfl, ?_⟩
  refine List.forall_mem_cons.mpr ⟨s_getf (idx := 141) (C := RX9) (T := TX9) (N := 54) rfl inX9 (by decide) q4_125 (by decide +kernel) rfl, ?_⟩
  refine List.forall_mem_cons.mpr ⟨s_iload_n (j := 3) (by decide +kernel) rfl rfl, ?_⟩
  refine List.forall_mem_cons.mpr ⟨s_iast (by decide +kernel) rfl, ?_⟩
  refine List.forall_mem_cons.mpr ⟨s_aload_n (j := 0) (by decide +kernel) rfl rfl, ?_⟩
  refine List.forall_mem_cons.mpr ⟨s_dup (by decide +kernel) rfl, ?_⟩
  refine List.forall_mem_cons.mpr ⟨s_getf (idx := 141) (C := RX9) (T := TX9) (N := 54) rfl inX9 (by decide) q4_125 (by decide +kernel) rfl, ?_⟩
  refine List.forall_mem_cons.mpr ⟨s_iconst (by decide +kernel) rfl, ?_⟩
  refine List.forall_mem_cons.mpr ⟨s_iadd (by decide +kernel) rfl, ?_⟩
  refine List.forall_mem_cons.mpr ⟨s_putf (idx := 141) (C := RX9) (T := TX9) (N := 54) rfl inX9 tyX9_ok nmX9 (by decide) rfl (tyX9_ok 14 (by decide)) (Or.inl ⟨rfl, kdI 9 14 (by decide)⟩) q4_125 (by decide +kernel) rfl, ?_⟩
  refine List.forall_mem_cons.mpr ⟨s_iload_n (j := 2) (by decide +kernel) rfl rfl, ?_⟩
  refine List.forall_mem_cons.mpr ⟨s_istore_n (j := 1) (by decide +kernel) rfl (by decide) rfl, ?_⟩
  refine List.forall_mem_cons.mpr ⟨s_aload_n (j := 0) (by decide +kernel) rfl rfl, ?_⟩
  refine List.forall_mem_cons.mpr ⟨s_getf (idx := 134) (C := RX9) (T := TX9) (N := 54) rfl inX9 (by decide) q4_126 (by decide +kernel) rfl, ?_⟩
  refine List.forall_mem_cons.mpr ⟨s_aload_n (j := 0) (by decide +kernel) rfl rfl, ?_⟩
  refine List.forall_mem_cons.mpr ⟨s_getf (idx := 131) (C := RX9) (T := TX9) (N := 54) rfl inX9 (by decide) q4_118 (by decide +kernel) rfl, ?_⟩
  refine List.forall_mem_cons.mpr ⟨s_icmp_ne (off := 5) (by decide +kernel) (by decide) rfl, ?_⟩
  refine List.forall_mem_cons.mpr ⟨s_iconst (by decide +kernel) rfl, ?_⟩
  refine List.forall_mem_cons.mpr ⟨s_zret rfl (by decide +kernel), ?_⟩
  refine List.forall_mem_cons.mpr ⟨s_aload_n (j := 0) (by decide +kernel) rfl rfl, ?_⟩
  refine List.forall_mem_cons.mpr ⟨s_callv (idx := 137) (k' := k_X9_byteAt) (T := TX9) (N := 54) rfl q5_66 q5_63 q5_65 qs_33 q1_10 de_X9_byteAt (by decide) (by decide +kernel) rfl, ?_⟩
  refine List.forall_mem_cons.mpr ⟨s_bipush (by decide +kernel) (by decide) rfl, ?_⟩
  refine List.forall_mem_cons.mpr ⟨s_icmp_ne (off := 12) (by decide +kernel) (by decide) rfl, ?_⟩
  refine List.forall_mem_cons.mpr ⟨s_aload_n (j := 0) (by decide +kernel) rfl rfl, ?_⟩
  refine List.forall_mem_cons.mpr ⟨s_getf (idx := 141) (C := RX9) (T := TX9) (N := 54) rfl inX9 (by decide) q4_125 (by decide +kernel) rfl, ?_⟩
  refine List.forall_mem_cons.mpr ⟨s_bipush (by decide +kernel) (by decide) rfl, ?_⟩
  refine List.forall_mem_cons.mpr ⟨s_icmp_ne (off := 5) (by decide +kernel) (by decide) rfl, ?_⟩
  refine List.forall_mem_cons.mpr ⟨s_iconst (by decide +kernel) rfl, ?_⟩
  refine List.forall_mem_cons.mpr ⟨s_zret rfl (by decide +kernel), ?_⟩
  refine List.forall_mem_cons.mpr ⟨s_aload_n (j := 0) (by decide +kernel) rfl rfl, ?_⟩
  refine List.forall_mem_cons.mpr ⟨s_dup (by decide +kernel) rfl, ?_⟩
  refine List.forall_mem_cons.mpr ⟨s_getf (idx := 134) (C := RX9) (T := TX9) (N := 54) rfl inX9 (by decide) q4_126 (by decide +kernel) rfl, ?_⟩
  refine List.forall_mem_cons.mpr ⟨s_iconst (by decide +kernel) rfl, ?_⟩
  refine List.forall_mem_cons.mpr ⟨s_iadd (by decide +kernel) rfl, ?_⟩
  refine List.forall_mem_cons.mpr ⟨s_putf (idx := 134) (C := RX9) (T := TX9) (N := 54) rfl inX9 tyX9_ok nmX9 (by decide) rfl (tyX9_ok 15 (by decide)) (Or.inl ⟨rfl, kdI 9 15 (by decide)⟩) q4_126 (by decide +kernel) rfl, ?_⟩
  refine List.forall_mem_cons.mpr ⟨s_goto (off := (-126)) (by decide +kernel) (by decide), ?_⟩
  exact fun q hq => absurd hq List.not_mem_nil
def T_X9_tide : List (Nat × zO) := [(0, o_aload 1 0), (1, o_getf 4 9 8), (4, o_const 6 10), (6, o_icmp_ne 12 9), (9, o_const 11 (-3)), (11, o_iret), (12, o_aload 13 0), (13, o_callv 0 9 k_X9_readPoints 16), (16, o_istore 17 1), (17, o_aload 18 0), (18, o_const 19 0), (19, o_putf 22 9 7), (22, o_iload 23 1), (23, o_if_ne 34 26), (26, o_const 28 (-100)), (28, o_aload 29 0), (29, o_getf 32 9 15), (32, o_isub 33), (33, o_iret), (34, o_aload 35 0), (35, o_getf 38 9 9), (38, o_aload 39 0), (39, o_getf 42 9 8), (42, o_aload 43 0), (43, o_getf 46 9 14), (46, o_iast 47), (47, o_const 48 0), (48, o_istore 49 2), (49, o_iload 50 2), (50, o_aload 51 0), (51, o_getf 54 9 14), (54, o_icmp_ge 103 57), (57, o_aload 58 0), (58, o_getf 61 9 10), (61, o_const 63 12), (63, o_aload 64 0), (64, o_getf 67 9 8), (67, o_imul 68), (68, o_iload 69 2), (69, o_iadd 70), (70, o_aload 71 0), (71, o_getf 74 9 12), (74, o_iload 75 2), (75, o_iald 76), (76, o_iast 77), (77, o_aload 78 0), (78, o_getf 81 9 11), (81, o_const 83 12), (83, o_aload 84 0), (84, o_getf 87 9 8), (87, o_imul 88), (88, o_iload 89 2), (89, o_iadd 90), (90, o_aload 91 0), (91, o_getf 94 9 13), (94, o_iload 95 2), (95, o_iald 96), (96, o_iast 97), (97, o_iinc 100 2 1), (100, o_goto 49), (103, o_aload 104 0), (104, o_dup 105), (105, o_getf 108 9 8), (108, o_const 109 1), (109, o_iadd 110), (110, o_putf 113 9 8), (113, o_aload 114 0), (114, o_getf 117 9 8), (117, o_const 118 1), (118, o_isub 119), (119, o_iret)]
set_option maxRecDepth 20000 in
theorem t_X9_tide : ∀ q ∈ T_X9_tide, zS k_X9_tide q.1 q.2 := by
  unfold T_X9_tide
  refine List.forall_mem_cons.mpr ⟨s_aload_n (j := 0) (by decide +kernel) rfl rfl, ?_⟩
  refine List.forall_mem_cons.mpr ⟨s_getf (idx := 148) (C := RX9) (T := TX9) (N := 54) rfl inX9 (by decide) q4_119 (by decide +kernel) rfl, ?_⟩
  refine List.forall_mem_cons.mpr ⟨s_bipush (by decide +kernel) (by decide) rfl, ?_⟩
  refine List.forall_mem_cons.mpr ⟨s_icmp_ne (off := 6) (by decide +kernel) (by decide) rfl, ?_⟩
  refine List.forall_mem_cons.mpr ⟨s_bipush (by decide +kernel) (by decide) rfl, ?_⟩
  refine List.forall_mem_cons.mpr ⟨s_iret rfl (by decide +kernel), ?_⟩
  refine List.forall_mem_cons.mpr ⟨s_aload_n (j := 0) (by decide +kernel) rfl rfl, ?_⟩
  refine List.forall_mem_cons.mpr ⟨s_callv (idx := 151) (k' := k_X9_readPoints) (T := TX9) (N := 54) rfl q5_58 q5_55 q5_57 qs_31 q1_10 de_X9_readPoints (by decide) (by decide +kernel) rfl, ?_⟩
  refine List.forall_mem_cons.mpr ⟨s_istore_n (j := 1) (by decide +kernel) rfl (by decide) rfl, ?_⟩
  refine List.forall_mem_cons.mpr ⟨s_aload_n (j := 0) (by decide +kernel) rfl rfl, ?_⟩
  refine List.forall_mem_cons.mpr ⟨s_iconst (by decide +kernel) rfl, ?_⟩
  refine List.forall_mem_cons.mpr ⟨s_putf (idx := 131) (C := RX9) (T := TX9) (N := 54) rfl inX9 tyX9_ok nmX9 (by decide) rfl (tyX9_ok 7 (by decide)) (Or.inl ⟨rfl, kdI 9 7 (by decide)⟩) q4_118 (by decide +kernel) rfl, ?_⟩
  refine List.forall_mem_cons.mpr ⟨s_iload_n (j := 1) (by decide +kernel) rfl rfl, ?_⟩
  refine List.forall_mem_cons.mpr ⟨s_if_ne (off := 11) (by decide +kernel) (by decide) rfl, ?_⟩
  refine List.forall_mem_cons.mpr ⟨s_bipush (by decide +kernel) (by decide) rfl, ?_⟩
  refine List.forall_mem_cons.mpr ⟨s_aload_n (j := 0) (by decide +kernel) rfl rfl, ?_⟩
  refine List.forall_mem_cons.mpr ⟨s_getf (idx := 134) (C := RX9) (T := TX9) (N := 54) rfl inX9 (by decide) q4_126 (by decide +kernel) rfl, ?_⟩
  refine List.forall_mem_cons.mpr ⟨s_isub (by decide +kernel) rfl, ?_⟩
  refine List.forall_mem_cons.mpr ⟨s_iret rfl (by decide +kernel), ?_⟩
  refine List.forall_mem_cons.mpr ⟨s_aload_n (j := 0) (by decide +kernel) rfl rfl, ?_⟩
  refine List.forall_mem_cons.mpr ⟨s_getf (idx := 31) (C := RX9) (T := TX9) (N := 54) rfl inX9 (by decide) q4_120 (by decide +kernel) rfl, ?_⟩
  refine List.forall_mem_cons.mpr ⟨s_aload_n (j := 0) (by decide +kernel) rfl rfl, ?_⟩
  refine List.forall_mem_cons.mpr ⟨s_getf (idx := 148) (C := RX9) (T := TX9) (N := 54) rfl inX9 (by decide) q4_119 (by decide +kernel) rfl, ?_⟩
  refine List.forall_mem_cons.mpr ⟨s_aload_n (j := 0) (by decide +kernel) rfl rfl, ?_⟩
  refine List.forall_mem_cons.mpr ⟨s_getf (idx := 141) (C := RX9) (T := TX9) (N := 54) rfl inX9 (by decide) q4_125 (by decide +kernel) rfl, ?_⟩
  refine List.forall_mem_cons.mpr ⟨s_iast (by decide +kernel) rfl, ?_⟩
  refine List.forall_mem_cons.mpr ⟨s_iconst (by decide +kernel) rfl, ?_⟩
  refine List.forall_mem_cons.mpr ⟨s_istore_n (j := 2) (by decide +kernel) rfl (by decide) rfl, ?_⟩
  refine List.forall_mem_cons.mpr ⟨s_iload_n (j := 2) (by decide +kernel) rfl rfl, ?_⟩
  refine List.forall_mem_cons.mpr ⟨s_aload_n (j := 0) (by decide +kernel) rfl rfl, ?_⟩
  refine List.forall_mem_cons.mpr ⟨s_getf (idx := 141) (C := RX9) (T := TX9) (N := 54) rfl inX9 (by decide) q4_125 (by decide +kernel) rfl, ?_⟩
  refine List.forall_mem_cons.mpr ⟨s_icmp_ge (off := 49) (by decide +kernel) (by decide) rfl, ?_⟩
  refine List.forall_mem_cons.mpr ⟨s_aload_n (j := 0) (by decide +kernel) rfl rfl, ?_⟩
  refine List.forall_mem_cons.mpr ⟨s_getf (idx := 34) (C := RX9) (T := TX9) (N := 54) rfl inX9 (by decide) q4_121 (by decide +kernel) rfl, ?_⟩
  refine List.forall_mem_cons.mpr ⟨s_bipush (by decide +kernel) (by decide) rfl, ?_⟩
  refine List.forall_mem_cons.mpr ⟨s_aload_n (j := 0) (by decide +kernel) rfl rfl, ?_⟩
  refine List.forall_mem_cons.mpr ⟨s_getf (idx := 148) (C := RX9) (T := TX9) (N := 54) rfl inX9 (by decide) q4_119 (by decide +kernel) rfl, ?_⟩
  refine List.forall_mem_cons.mpr ⟨s_imul (by decide +kernel) rfl, ?_⟩
  refine List.forall_mem_cons.mpr ⟨s_iload_n (j := 2) (by decide +kernel) rfl rfl, ?_⟩
  refine List.forall_mem_cons.mpr ⟨s_iadd (by decide +kernel) rfl, ?_⟩
  refine List.forall_mem_cons.mpr ⟨s_aload_n (j := 0) (by decide +kernel) rfl rfl, ?_⟩
  refine List.forall_mem_cons.mpr ⟨s_getf (idx := 40) (C := RX9) (T := TX9) (N := 54) rfl inX9 (by decide) q4_123 (by decide +kernel) rfl, ?_⟩
  refine List.forall_mem_cons.mpr ⟨s_iload_n (j := 2) (by decide +kernel) rfl rfl, ?_⟩
  refine List.forall_mem_cons.mpr ⟨s_iald (by decide +kernel) rfl, ?_⟩
  refine List.forall_mem_cons.mpr ⟨s_iast (by decide +kernel) rfl, ?_⟩
  refine List.forall_mem_cons.mpr ⟨s_aload_n (j := 0) (by decide +kernel) rfl rfl, ?_⟩
  refine List.forall_mem_cons.mpr ⟨s_getf (idx := 37) (C := RX9) (T := TX9) (N := 54) rfl inX9 (by decide) q4_122 (by decide +kernel) rfl, ?_⟩
  refine List.forall_mem_cons.mpr ⟨s_bipush (by decide +kernel) (by decide) rfl, ?_⟩
  refine List.forall_mem_cons.mpr ⟨s_aload_n (j := 0) (by decide +kernel) rfl rfl, ?_⟩
  refine List.forall_mem_cons.mpr ⟨s_getf (idx := 148) (C := RX9) (T := TX9) (N := 54) rfl inX9 (by decide) q4_119 (by decide +kernel) rfl, ?_⟩
  refine List.forall_mem_cons.mpr ⟨s_imul (by decide +kernel) rfl, ?_⟩
  refine List.forall_mem_cons.mpr ⟨s_iload_n (j := 2) (by decide +kernel) rfl rfl, ?_⟩
  refine List.forall_mem_cons.mpr ⟨s_iadd (by decide +kernel) rfl, ?_⟩
  refine List.forall_mem_cons.mpr ⟨s_aload_n (j := 0) (by decide +kernel) rfl rfl, ?_⟩
  refine List.forall_mem_cons.mpr ⟨s_getf (idx := 43) (C := RX9) (T := TX9) (N := 54) rfl inX9 (by decide) q4_124 (by decide +kernel) rfl, ?_⟩
  refine List.forall_mem_cons.mpr ⟨s_iload_n (j := 2) (by decide +kernel) rfl rfl, ?_⟩
  refine List.forall_mem_cons.mpr ⟨s_iald (by decide +kernel) rfl, ?_⟩
  refine List.forall_mem_cons.mpr ⟨s_iast (by decide +kernel) rfl, ?_⟩
  refine List.forall_mem_cons.mpr ⟨s_iinc (by decide +kernel) (by decide) rfl, ?_⟩
  refine List.forall_mem_cons.mpr ⟨s_goto (off := (-51)) (by decide +kernel) (by decide), ?_⟩
  refine List.forall_mem_cons.mpr ⟨s_aload_n (j := 0) (by decide +kernel) rfl rfl, ?_⟩
  refine List.forall_mem_cons.mpr ⟨s_dup (by decide +kernel) rfl, ?_⟩
  refine List.forall_mem_cons.mpr ⟨s_getf (idx := 148) (C := RX9) (T := TX9) (N := 54) rfl inX9 (by decide) q4_119 (by decide +kernel) rfl, ?_⟩
  refine List.forall_mem_cons.mpr ⟨s_iconst (by decide +kernel) rfl, ?_⟩
  refine List.forall_mem_cons.mpr ⟨s_iadd (by decide +kernel) rfl, ?_⟩
  refine List.forall_mem_cons.mpr ⟨s_putf (idx := 148) (C := RX9) (T := TX9) (N := 54) rfl inX9 tyX9_ok nmX9 (by decide) rfl (tyX9_ok 8 (by decide)) (Or.inl ⟨rfl, kdI 9 8 (by decide)⟩) q4_119 (by decide +kernel) rfl, ?_⟩
  refine List.forall_mem_cons.mpr ⟨s_aload_n (j := 0) (by decide +kernel) rfl rfl, ?_⟩
  refine List.forall_mem_cons.mpr ⟨s_getf (idx := 148) (C := RX9) (T := TX9) (N := 54) rfl inX9 (by decide) q4_119 (by decide +kernel) rfl, ?_⟩
  refine List.forall_mem_cons.mpr ⟨s_iconst (by decide +kernel) rfl, ?_⟩
  refine List.forall_mem_cons.mpr ⟨s_isub (by decide +kernel) rfl, ?_⟩
  refine List.forall_mem_cons.mpr ⟨s_iret rfl (by decide +kernel), ?_⟩
  exact fun q hq => absurd hq List.not_mem_nil
def T_X9_isTide : List (Nat × zO) := [(0, o_iload 1 1), (1, o_i2l 2), (2, o_lconst 3 0), (3, o_aload 4 0), (4, o_getf 7 9 8), (7, o_const 8 1), (8, o_isub 9), (9, o_i2l 10), (10, o_calls 3 k_X9_within 13), (13, o_zret)]
set_option maxRecDepth 20000 in
theorem t_X9_isTide : ∀ q ∈ T_X9_isTide, zS k_X9_isTide q.1 q.2 := by
  unfold T_X9_isTide
  refine List.forall_mem_cons.mpr ⟨s_iload_n (j := 1) (by decide +kernel) rfl rfl, ?_⟩
  refine List.forall_mem_cons.mpr ⟨s_i2l (by decide +kernel) rfl, ?_⟩
  refine List.forall_mem_cons.mpr ⟨s_lconst (z := 0) (by decide +kernel) (by decide) rfl, ?_⟩
  refine List.forall_mem_cons.mpr ⟨s_aload_n (j := 0) (by decide +kernel) rfl rfl, ?_⟩
  refine List.forall_mem_cons.mpr ⟨s_getf (idx := 148) (C := RX9) (T := TX9) (N := 54) rfl inX9 (by decide) q4_119 (by decide +kernel) rfl, ?_⟩
  refine List.forall_mem_cons.mpr ⟨s_iconst (by decide +kernel) rfl, ?_⟩
  refine List.forall_mem_cons.mpr ⟨s_isub (by decide +kernel) rfl, ?_⟩
  refine List.forall_mem_cons.mpr ⟨s_i2l (by decide +kernel) rfl, ?_⟩
  refine List.forall_mem_cons.mpr ⟨s_calls (idx := 5) (k' := k_X9_within) q5_50 q5_48 q5_49 q1_10 de_X9_within (by decide) (by decide +kernel) rfl, ?_⟩
  refine List.forall_mem_cons.mpr ⟨s_zret rfl (by decide +kernel), ?_⟩
  exact fun q hq => absurd hq List.not_mem_nil
def T_X9_isWind : List (Nat × zO) := [(0, o_iload 1 1), (1, o_i2l 2), (2, o_lconst 3 0), (3, o_aload 4 0), (4, o_getf 7 9 16), (7, o_const 8 1), (8, o_isub 9), (9, o_i2l 10), (10, o_calls 3 k_X9_within 13), (13, o_zret)]
set_option maxRecDepth 20000 in
theorem t_X9_isWind : ∀ q ∈ T_X9_isWind, zS k_X9_isWind q.1 q.2 := by
  unfold T_X9_isWind
  refine List.forall_mem_cons.mpr ⟨s_iload_n (j := 1) (by decide +kernel) rfl rfl, ?_⟩
  refine List.forall_mem_cons.mpr ⟨s_i2l (by decide +kernel) rfl, ?_⟩
  refine List.forall_mem_cons.mpr ⟨s_lconst (z := 0) (by decide +kernel) (by decide) rfl, ?_⟩
  refine List.forall_mem_cons.mpr ⟨s_aload_n (j := 0) (by decide +kernel) rfl rfl, ?_⟩
  refine List.forall_mem_cons.mpr ⟨s_getf (idx := 117) (C := RX9) (T := TX9) (N := 54) rfl inX9 (by decide) q4_127 (by decide +kernel) rfl, ?_⟩
  refine List.forall_mem_cons.mpr ⟨s_iconst (by decide +kernel) rfl, ?_⟩
  refine List.forall_mem_cons.mpr ⟨s_isub (by decide +kernel) rfl, ?_⟩
  refine List.forall_mem_cons.mpr ⟨s_i2l (by decide +kernel) rfl, ?_⟩
  refine List.forall_mem_cons.mpr ⟨s_calls (idx := 5) (k' := k_X9_within) q5_50 q5_48 q5_49 q1_10 de_X9_within (by decide) (by decide +kernel) rfl, ?_⟩
  refine List.forall_mem_cons.mpr ⟨s_zret rfl (by decide +kernel), ?_⟩
  exact fun q hq => absurd hq List.not_mem_nil
def T_X9_wind : List (Nat × zO) := [(0, o_iload 1 1), (1, o_i2l 2), (2, o_lconst 5 (-99)), (5, o_lconst 8 (99)), (8, o_calls 3 k_X9_within 11), (11, o_if_eq 40 14), (14, o_iload 15 2), (15, o_i2l 16), (16, o_lconst 19 (-60)), (19, o_lconst 22 (60)), (22, o_calls 3 k_X9_within 25), (25, o_if_eq 40 28), (28, o_iload 29 3), (29, o_i2l 30), (30, o_lconst 31 1), (31, o_lconst 34 (99)), (34, o_calls 3 k_X9_within 37), (37, o_if_ne 42 40), (40, o_const 41 (-1)), (41, o_iret), (42, o_aload 43 0), (43, o_getf 46 9 16), (46, o_const 47 5), (47, o_icmp_ne 53 50), (50, o_const 52 (-3)), (52, o_iret), (53, o_aload 54 0), (54, o_getf 57 9 17), (57, o_aload 58 0), (58, o_getf 61 9 16), (61, o_iload 62 1), (62, o_iast 63), (63, o_aload 64 0), (64, o_getf 67 9 18), (67, o_aload 68 0), (68, o_getf 71 9 16), (71, o_iload 72 2), (72, o_iast 73), (73, o_aload 74 0), (74, o_getf 77 9 19), (77, o_aload 78 0), (78, o_getf 81 9 16), (81, o_iload 82 3), (82, o_iast 83), (83, o_aload 84 0), (84, o_dup 85), (85, o_getf 88 9 16), (88, o_const 89 1), (89, o_iadd 90), (90, o_putf 93 9 16), (93, o_aload 94 0), (94, o_getf 97 9 16), (97, o_const 98 1), (98, o_isub 99), (99, o_iret)]
set_option maxRecDepth 20000 in
theorem t_X9_wind : ∀ q ∈ T_X9_wind, zS k_X9_wind q.1 q.2 := by
  unfold T_X9_wind
  refine List.forall_mem_cons.mpr ⟨s_iload_n (j := 1) (by decide +kernel) rfl rfl, ?_⟩
  refine List.forall_mem_cons.mpr ⟨s_i2l (by decide +kernel) rfl, ?_⟩
  refine List.forall_mem_cons.mpr ⟨s_ldc2 (idx := 155) (y := (-99)) (by decide +kernel) q5_71 rfl, ?_⟩
  refine List.forall_mem_cons.mpr ⟨s_ldc2 (idx := 157) (y := (99)) (by decide +kernel) q5_72 rfl, ?_⟩
  refine List.forall_mem_cons.mpr ⟨s_calls (idx := 5) (k' := k_X9_within) q5_50 q5_48 q5_49 q1_10 de_X9_within (by decide) (by decide +kernel) rfl, ?_⟩
  refine List.forall_mem_cons.mpr ⟨s_if_eq (off := 29) (by decide +kernel) (by decide) rfl, ?_⟩
  refine List.forall_mem_cons.mpr ⟨s_iload_n (j := 2) (by decide +kernel) rfl rfl, ?_⟩
  refine List.forall_mem_cons.mpr ⟨s_i2l (by decide +kernel) rfl, ?_⟩
  refine List.forall_mem_cons.mpr ⟨s_ldc2 (idx := 159) (y := (-60)) (by decide +kernel) q5_73 rfl, ?_⟩
  refine List.forall_mem_cons.mpr ⟨s_ldc2 (idx := 161) (y := (60)) (by decide +kernel) q5_74 rfl, ?_⟩
  refine List.forall_mem_cons.mpr ⟨s_calls (idx := 5) (k' := k_X9_within) q5_50 q5_48 q5_49 q1_10 de_X9_within (by decide) (by decide +kernel) rfl, ?_⟩
  refine List.forall_mem_cons.mpr ⟨s_if_eq (off := 15) (by decide +kernel) (by decide) rfl, ?_⟩
  refine List.forall_mem_cons.mpr ⟨s_iload_n (j := 3) (by decide +kernel) rfl rfl, ?_⟩
  refine List.forall_mem_cons.mpr ⟨s_i2l (by decide +kernel) rfl, ?_⟩
  refine List.forall_mem_cons.mpr ⟨s_lconst (z := 1) (by decide +kernel) (by decide) rfl, ?_⟩
  refine List.forall_mem_cons.mpr ⟨s_ldc2 (idx := 157) (y := (99)) (by decide +kernel) q5_72 rfl, ?_⟩
  refine List.forall_mem_cons.mpr ⟨s_calls (idx := 5) (k' := k_X9_within) q5_50 q5_48 q5_49 q1_10 de_X9_within (by decide) (by decide +kernel) rfl, ?_⟩
  refine List.forall_mem_cons.mpr ⟨s_if_ne (off := 5) (by decide +kernel) (by decide) rfl, ?_⟩
  refine List.forall_mem_cons.mpr ⟨s_iconst (by decide +kernel) rfl, ?_⟩
  refine List.forall_mem_cons.mpr ⟨s_iret rfl (by decide +kernel), ?_⟩
  refine List.forall_mem_cons.mpr ⟨s_aload_n (j := 0) (by decide +kernel) rfl rfl, ?_⟩
  refine List.forall_mem_cons.mpr ⟨s_getf (idx := 117) (C := RX9) (T := TX9) (N := 54) rfl inX9 (by decide) q4_127 (by decide +kernel) rfl, ?_⟩
  refine List.forall_mem_cons.mpr ⟨s_iconst (by decide +kernel) rfl, ?_⟩
  refine List.forall_mem_cons.mpr ⟨s_icmp_ne (off := 6) (by decide +kernel) (by decide) rfl, ?_⟩
  refine List.forall_mem_cons.mpr ⟨s_bipush (by decide +kernel) (by decide) rfl, ?_⟩
  refine List.forall_mem_cons.mpr ⟨s_iret rfl (by decide +kernel), ?_⟩
  refine List.forall_mem_cons.mpr ⟨s_aload_n (j := 0) (by decide +kernel) rfl rfl, ?_⟩
  refine List.forall_mem_cons.mpr ⟨s_getf (idx := 46) (C := RX9) (T := TX9) (N := 54) rfl inX9 (by decide) q4_128 (by decide +kernel) rfl, ?_⟩
  refine List.forall_mem_cons.mpr ⟨s_aload_n (j := 0) (by decide +kernel) rfl rfl, ?_⟩
  refine List.forall_mem_cons.mpr ⟨s_getf (idx := 117) (C := RX9) (T := TX9) (N := 54) rfl inX9 (by decide) q4_127 (by decide +kernel) rfl, ?_⟩
  refine List.forall_mem_cons.mpr ⟨s_iload_n (j := 1) (by decide +kernel) rfl rfl, ?_⟩
  refine List.forall_mem_cons.mpr ⟨s_iast (by decide +kernel) rfl, ?_⟩
  refine List.forall_mem_cons.mpr ⟨s_aload_n (j := 0) (by decide +kernel) rfl rfl, ?_⟩
  refine List.forall_mem_cons.mpr ⟨s_getf (idx := 49) (C := RX9) (T := TX9) (N := 54) rfl inX9 (by decide) q4_129 (by decide +kernel) rfl, ?_⟩
  refine List.forall_mem_cons.mpr ⟨s_aload_n (j := 0) (by decide +kernel) rfl rfl, ?_⟩
  refine List.forall_mem_cons.mpr ⟨s_getf (idx := 117) (C := RX9) (T := TX9) (N := 54) rfl inX9 (by decide) q4_127 (by decide +kernel) rfl, ?_⟩
  refine List.forall_mem_cons.mpr ⟨s_iload_n (j := 2) (by decide +kernel) rfl rfl, ?_⟩
  refine List.forall_mem_cons.mpr ⟨s_iast (by decide +kernel) rfl, ?_⟩
  refine List.forall_mem_cons.mpr ⟨s_aload_n (j := 0) (by decide +kernel) rfl rfl, ?_⟩
  refine List.forall_mem_cons.mpr ⟨s_getf (idx := 52) (C := RX9) (T := TX9) (N := 54) rfl inX9 (by decide) q4_130 (by decide +kernel) rfl, ?_⟩
  refine List.forall_mem_cons.mpr ⟨s_aload_n (j := 0) (by decide +kernel) rfl rfl, ?_⟩
  refine List.forall_mem_cons.mpr ⟨s_getf (idx := 117) (C := RX9) (T := TX9) (N := 54) rfl inX9 (by decide) q4_127 (by decide +kernel) rfl, ?_⟩
  refine List.forall_mem_cons.mpr ⟨s_iload_n (j := 3) (by decide +kernel) rfl rfl, ?_⟩
  refine List.forall_mem_cons.mpr ⟨s_iast (by decide +kernel) rfl, ?_⟩
  refine List.forall_mem_cons.mpr ⟨s_aload_n (j := 0) (by decide +kernel) rfl rfl, ?_⟩
  refine List.forall_mem_cons.mpr ⟨s_dup (by decide +kernel) rfl, ?_⟩
  refine List.forall_mem_cons.mpr ⟨s_getf (idx := 117) (C := RX9) (T := TX9) (N := 54) rfl inX9 (by decide) q4_127 (by decide +kernel) rfl, ?_⟩
  refine List.forall_mem_cons.mpr ⟨s_iconst (by decide +kernel) rfl, ?_⟩
  refine List.forall_mem_cons.mpr ⟨s_iadd (by decide +kernel) rfl, ?_⟩
  refine List.forall_mem_cons.mpr ⟨s_putf (idx := 117) (C := RX9) (T := TX9) (N := 54) rfl inX9 tyX9_ok nmX9 (by decide) rfl (tyX9_ok 16 (by decide)) (Or.inl ⟨rfl, kdI 9 16 (by decide)⟩) q4_127 (by decide +kernel) rfl, ?_⟩
  refine List.forall_mem_cons.mpr ⟨s_aload_n (j := 0) (by decide +kernel) rfl rfl, ?_⟩
  refine List.forall_mem_cons.mpr ⟨s_getf (idx := 117) (C := RX9) (T := TX9) (N := 54) rfl inX9 (by decide) q4_127 (by decide +kernel) rfl, ?_⟩
  refine List.forall_mem_cons.mpr ⟨s_iconst (by decide +kernel) rfl, ?_⟩
  refine List.forall_mem_cons.mpr ⟨s_isub (by decide +kernel) rfl, ?_⟩
  refine List.forall_mem_cons.mpr ⟨s_iret rfl (by decide +kernel), ?_⟩
  exact fun q hq => absurd hq List.not_mem_nil
def T_X9_tideAt : List (Nat × zO) := [(0, o_const 2 12), (2, o_iload 3 1), (3, o_imul 4), (4, o_istore 5 3), (5, o_iload 6 3), (6, o_aload 7 0), (7, o_getf 10 9 9), (10, o_iload 11 1), (11, o_iald 12), (12, o_iadd 13), (13, o_const 14 1), (14, o_isub 15), (15, o_istore 17 4), (17, o_iload 18 2), (18, o_aload 19 0), (19, o_getf 22 9 10), (22, o_iload 23 3), (23, o_iald 24), (24, o_icmp_gt 34 27), (27, o_aload 28 0), (28, o_getf 31 9 11), (31, o_iload 32 3), (32, o_iald 33), (33, o_iret), (34, o_iload 35 3), (35, o_istore 37 5), (37, o_iload 39 5), (39, o_iload 41 4), (41, o_icmp_ge 123 44), (44, o_iload 45 2), (45, o_aload 46 0), (46, o_getf 49 9 10), (49, o_iload 51 5), (51, o_const 52 1), (52, o_iadd 53), (53, o_iald 54), (54, o_icmp_gt 117 57), (57, o_aload 58 0), (58, o_getf 61 9 10), (61, o_iload 63 5), (63, o_const 64 1), (64, o_iadd 65), (65, o_iald 66), (66, o_aload 67 0), (67, o_getf 70 9 10), (70, o_iload 72 5), (72, o_iald 73), (73, o_isub 74), (74, o_istore 76 6), (76, o_iload 77 2), (77, o_aload 78 0), (78, o_getf 81 9 10), (81, o_iload 83 5), (83, o_iald 84), (84, o_isub 85), (85, o_istore 87 7), (87, o_aload 88 0), (88, o_getf 91 9 11), (91, o_iload 93 5), (93, o_iald 94), (94, o_iload 96 6), (96, o_iload 98 7), (98, o_isub 99), (99, o_imul 100), (100, o_aload 101 0), (101, o_getf 104 9 11), (104, o_iload 106 5), (106, o_const 107 1), (107, o_iadd 108), (108, o_iald 109), (109, o_iload 111 7), (111, o_imul 112), (112, o_iadd 113), (113, o_iload 115 6), (115, o_idiv 116), (116, o_iret), (117, o_iinc 120 5 1), (120, o_goto 37), (123, o_aload 124 0), (124, o_getf 127 9 11), (127, o_iload 129 4), (129, o_iald 130), (130, o_iret)]
set_option maxRecDepth 20000 in
theorem t_X9_tideAt : ∀ q ∈ T_X9_tideAt, zS k_X9_tideAt q.1 q.2 := by
  unfold T_X9_tideAt
  refine List.forall_mem_cons.mpr ⟨s_bipush (by decide +kernel) (by decide) rfl, ?_⟩
  refine List.forall_mem_cons.mpr ⟨s_iload_n (j := 1) (by decide +kernel) rfl rfl, ?_⟩
  refine List.forall_mem_cons.mpr ⟨s_imul (by decide +kernel) rfl, ?_⟩
  refine List.forall_mem_cons.mpr ⟨s_istore_n (j := 3) (by decide +kernel) rfl (by decide) rfl, ?_⟩
  refine List.forall_mem_cons.mpr ⟨s_iload_n (j := 3) (by decide +kernel) rfl rfl, ?_⟩
  refine List.forall_mem_cons.mpr ⟨s_aload_n (j := 0) (by decide +kernel) rfl rfl, ?_⟩
  refine List.forall_mem_cons.mpr ⟨s_getf (idx := 31) (C := RX9) (T := TX9) (N := 54) rfl inX9 (by decide) q4_120 (by decide +kernel) rfl, ?_⟩
  refine List.forall_mem_cons.mpr ⟨s_iload_n (j := 1) (by decide +kernel) rfl rfl, ?_⟩
  refine List.forall_mem_cons.mpr ⟨s_iald (by decide +kernel) rfl, ?_⟩
  refine List.forall_mem_cons.mpr ⟨s_iadd (by decide +kernel) rfl, ?_⟩
  refine List.forall_mem_cons.mpr ⟨s_iconst (by decide +kernel) rfl, ?_⟩
  refine List.forall_mem_cons.mpr ⟨s_isub (by decide +kernel) rfl, ?_⟩
  refine List.forall_mem_cons.mpr ⟨s_istore (by decide +kernel) (by decide) rfl, ?_⟩
  refine List.forall_mem_cons.mpr ⟨s_iload_n (j := 2) (by decide +kernel) rfl rfl, ?_⟩
  refine List.forall_mem_cons.mpr ⟨s_aload_n (j := 0) (by decide +kernel) rfl rfl, ?_⟩
  refine List.forall_mem_cons.mpr ⟨s_getf (idx := 34) (C := RX9) (T := TX9) (N := 54) rfl inX9 (by decide) q4_121 (by decide +kernel) rfl, ?_⟩
  refine List.forall_mem_cons.mpr ⟨s_iload_n (j := 3) (by decide +kernel) rfl rfl, ?_⟩
  refine List.forall_mem_cons.mpr ⟨s_iald (by decide +kernel) rfl, ?_⟩
  refine List.forall_mem_cons.mpr ⟨s_icmp_gt (off := 10) (by decide +kernel) (by decide) rfl, ?_⟩
  refine List.forall_mem_cons.mpr ⟨s_aload_n (j := 0) (by decide +kernel) rfl rfl, ?_⟩
  refine List.forall_mem_cons.mpr ⟨s_getf (idx := 37) (C := RX9) (T := TX9) (N := 54) rfl inX9 (by decide) q4_122 (by decide +kernel) rfl, ?_⟩
  refine List.forall_mem_cons.mpr ⟨s_iload_n (j := 3) (by decide +kernel) rfl rfl, ?_⟩
  refine List.forall_mem_cons.mpr ⟨s_iald (by decide +kernel) rfl, ?_⟩
  refine List.forall_mem_cons.mpr ⟨s_iret rfl (by decide +kernel), ?_⟩
  refine List.forall_mem_cons.mpr ⟨s_iload_n (j := 3) (by decide +kernel) rfl rfl, ?_⟩
  refine List.forall_mem_cons.mpr ⟨s_istore (by decide +kernel) (by decide) rfl, ?_⟩
  refine List.forall_mem_cons.mpr ⟨s_iload (by decide +kernel) rfl, ?_⟩
  refine List.forall_mem_cons.mpr ⟨s_iload (by decide +kernel) rfl, ?_⟩
  refine List.forall_mem_cons.mpr ⟨s_icmp_ge (off := 82) (by decide +kernel) (by decide) rfl, ?_⟩
  refine List.forall_mem_cons.mpr ⟨s_iload_n (j := 2) (by decide +kernel) rfl rfl, ?_⟩
  refine List.forall_mem_cons.mpr ⟨s_aload_n (j := 0) (by decide +kernel) rfl rfl, ?_⟩
  refine List.forall_mem_cons.mpr ⟨s_getf (idx := 34) (C := RX9) (T := TX9) (N := 54) rfl inX9 (by decide) q4_121 (by decide +kernel) rfl, ?_⟩
  refine List.forall_mem_cons.mpr ⟨s_iload (by decide +kernel) rfl, ?_⟩
  refine List.forall_mem_cons.mpr ⟨s_iconst (by decide +kernel) rfl, ?_⟩
  refine List.forall_mem_cons.mpr ⟨s_iadd (by decide +kernel) rfl, ?_⟩
  refine List.forall_mem_cons.mpr ⟨s_iald (by decide +kernel) rfl, ?_⟩
  refine List.forall_mem_cons.mpr ⟨s_icmp_gt (off := 63) (by decide +kernel) (by decide) rfl, ?_⟩
  refine List.forall_mem_cons.mpr ⟨s_aload_n (j := 0) (by decide +kernel) rfl rfl, ?_⟩
  refine List.forall_mem_cons.mpr ⟨s_getf (idx := 34) (C := RX9) (T := TX9) (N := 54) rfl inX9 (by decide) q4_121 (by decide +kernel) rfl, ?_⟩
  refine List.forall_mem_cons.mpr ⟨s_iload (by decide +kernel) rfl, ?_⟩
  refine List.forall_mem_cons.mpr ⟨s_iconst (by decide +kernel) rfl, ?_⟩
  refine List.forall_mem_cons.mpr ⟨s_iadd (by decide +kernel) rfl, ?_⟩
  refine List.forall_mem_cons.mpr ⟨s_iald (by decide +kernel) rfl, ?_⟩
  refine List.forall_mem_cons.mpr ⟨s_aload_n (j := 0) (by decide +kernel) rfl rfl, ?_⟩
  refine List.forall_mem_cons.mpr ⟨s_getf (idx := 34) (C := RX9) (T := TX9) (N := 54) rfl inX9 (by decide) q4_121 (by decide +kernel) rfl, ?_⟩
  refine List.forall_mem_cons.mpr ⟨s_iload (by decide +kernel) rfl, ?_⟩
  refine List.forall_mem_cons.mpr ⟨s_iald (by decide +kernel) rfl, ?_⟩
  refine List.forall_mem_cons.mpr ⟨s_isub (by decide +kernel) rfl, ?_⟩
  refine List.forall_mem_cons.mpr ⟨s_istore (by decide +kernel) (by decide) rfl, ?_⟩
  refine List.forall_mem_cons.mpr ⟨s_iload_n (j := 2) (by decide +kernel) rfl rfl, ?_⟩
  refine List.forall_mem_cons.mpr ⟨s_aload_n (j := 0) (by decide +kernel) rfl rfl, ?_⟩
  refine List.forall_mem_cons.mpr ⟨s_getf (idx := 34) (C := RX9) (T := TX9) (N := 54) rfl inX9 (by decide) q4_121 (by decide +kernel) rfl, ?_⟩
  refine List.forall_mem_cons.mpr ⟨s_iload (by decide +kernel) rfl, ?_⟩
  refine List.forall_mem_cons.mpr ⟨s_iald (by decide +kernel) rfl, ?_⟩
  refine List.forall_mem_cons.mpr ⟨s_isub (by decide +kernel) rfl, ?_⟩
  refine List.forall_mem_cons.mpr ⟨s_istore (by decide +kernel) (by decide) rfl, ?_⟩
  refine List.forall_mem_cons.mpr ⟨s_aload_n (j := 0) (by decide +kernel) rfl rfl, ?_⟩
  refine List.forall_mem_cons.mpr ⟨s_getf (idx := 37) (C := RX9) (T := TX9) (N := 54) rfl inX9 (by decide) q4_122 (by decide +kernel) rfl, ?_⟩
  refine List.forall_mem_cons.mpr ⟨s_iload (by decide +kernel) rfl, ?_⟩
  refine List.forall_mem_cons.mpr ⟨s_iald (by decide +kernel) rfl, ?_⟩
  refine List.forall_mem_cons.mpr ⟨s_iload (by decide +kernel) rfl, ?_⟩
  refine List.forall_mem_cons.mpr ⟨s_iload (by decide +kernel) rfl, ?_⟩
  refine List.forall_mem_cons.mpr ⟨s_isub (by decide +kernel) rfl, ?_⟩
  refine List.forall_mem_cons.mpr ⟨s_imul (by decide +kernel) rfl, ?_⟩
  refine List.forall_mem_cons.mpr ⟨s_aload_n (j := 0) (by decide +kernel) rfl rfl, ?_⟩
  refine List.forall_mem_cons.mpr ⟨s_getf (idx := 37) (C := RX9) (T := TX9) (N := 54) rfl inX9 (by decide) q4_122 (by decide +kernel) rfl, ?_⟩
  refine List.forall_mem_cons.mpr ⟨s_iload (by decide +kernel) rfl, ?_⟩
  refine List.forall_mem_cons.mpr ⟨s_iconst (by decide +kernel) rfl, ?_⟩
  refine List.forall_mem_cons.mpr ⟨s_iadd (by decide +kernel) rfl, ?_⟩
  refine List.forall_mem_cons.mpr ⟨s_iald (by decide +kernel) rfl, ?_⟩
  refine List.forall_mem_cons.mpr ⟨s_iload (by decide +kernel) rfl, ?_⟩
  refine List.forall_mem_cons.mpr ⟨s_imul (by decide +kernel) rfl, ?_⟩
  refine List.forall_mem_cons.mpr ⟨s_iadd (by decide +kernel) rfl, ?_⟩
  refine List.forall_mem_cons.mpr ⟨s_iload (by decide +kernel) rfl, ?_⟩
  refine List.forall_mem_cons.mpr ⟨s_idiv (by decide +kernel) rfl, ?_⟩
  refine List.forall_mem_cons.mpr ⟨s_iret rfl (by decide +kernel), ?_⟩
  refine List.forall_mem_cons.mpr ⟨s_iinc (by decide +kernel) (by decide) rfl, ?_⟩
  refine List.forall_mem_cons.mpr ⟨s_goto (off := (-83)) (by decide +kernel) (by decide), ?_⟩
  refine List.forall_mem_cons.mpr ⟨s_aload_n (j := 0) (by decide +kernel) rfl rfl, ?_⟩
  refine List.forall_mem_cons.mpr ⟨s_getf (idx := 37) (C := RX9) (T := TX9) (N := 54) rfl inX9 (by decide) q4_122 (by decide +kernel) rfl, ?_⟩
  refine List.forall_mem_cons.mpr ⟨s_iload (by decide +kernel) rfl, ?_⟩
  refine List.forall_mem_cons.mpr ⟨s_iald (by decide +kernel) rfl, ?_⟩
  refine List.forall_mem_cons.mpr ⟨s_iret rfl (by decide +kernel), ?_⟩
  exact fun q hq => absurd hq List.not_mem_nil
def T_X9_seaAt : List (Nat × zO) := [(0, o_iload 1 3), (1, o_aload 2 0), (2, o_getf 5 9 18), (5, o_iload 6 2), (6, o_iald 7), (7, o_iadd 8), (8, o_istore 10 4), (10, o_aload 11 0), (11, o_iload 12 1), (12, o_iload 14 4), (14, o_if_ge 21 17), (17, o_const 18 0), (18, o_goto 37), (21, o_iload 23 4), (23, o_const 26 1439), (26, o_icmp_le 35 29), (29, o_const 32 1439), (32, o_goto 37), (35, o_iload 37 4), (37, o_callv 2 9 k_X9_tideAt 40), (40, o_aload 41 0), (41, o_getf 44 9 17), (44, o_iload 45 2), (45, o_iald 46), (46, o_iadd 47), (47, o_iret)]
set_option maxRecDepth 20000 in
theorem t_X9_seaAt : ∀ q ∈ T_X9_seaAt, zS k_X9_seaAt q.1 q.2 := by
  unfold T_X9_seaAt
  refine List.forall_mem_cons.mpr ⟨s_iload_n (j := 3) (by decide +kernel) rfl rfl, ?_⟩
  refine List.forall_mem_cons.mpr ⟨s_aload_n (j := 0) (by decide +kernel) rfl rfl, ?_⟩
  refine List.forall_mem_cons.mpr ⟨s_getf (idx := 49) (C := RX9) (T := TX9) (N := 54) rfl inX9 (by decide) q4_129 (by decide +kernel) rfl, ?_⟩
  refine List.forall_mem_cons.mpr ⟨s_iload_n (j := 2) (by decide +kernel) rfl rfl, ?_⟩
  refine List.forall_mem_cons.mpr ⟨s_iald (by decide +kernel) rfl, ?_⟩
  refine List.forall_mem_cons.mpr ⟨s_iadd (by decide +kernel) rfl, ?_⟩
  refine List.forall_mem_cons.mpr ⟨s_istore (by decide +kernel) (by decide) rfl, ?_⟩
  refine List.forall_mem_cons.mpr ⟨s_aload_n (j := 0) (by decide +kernel) rfl rfl, ?_⟩
  refine List.forall_mem_cons.mpr ⟨s_iload_n (j := 1) (by decide +kernel) rfl rfl, ?_⟩
  refine List.forall_mem_cons.mpr ⟨s_iload (by decide +kernel) rfl, ?_⟩
  refine List.forall_mem_cons.mpr ⟨s_if_ge (off := 7) (by decide +kernel) (by decide) rfl, ?_⟩
  refine List.forall_mem_cons.mpr ⟨s_iconst (by decide +kernel) rfl, ?_⟩
  refine List.forall_mem_cons.mpr ⟨s_goto (off := 19) (by decide +kernel) (by decide), ?_⟩
  refine List.forall_mem_cons.mpr ⟨s_iload (by decide +kernel) rfl, ?_⟩
  refine List.forall_mem_cons.mpr ⟨s_sipush (by decide +kernel) (by decide) rfl, ?_⟩
  refine List.forall_mem_cons.mpr ⟨s_icmp_le (off := 9) (by decide +kernel) (by decide) rfl, ?_⟩
  refine List.forall_mem_cons.mpr ⟨s_sipush (by decide +kernel) (by decide) rfl, ?_⟩
  refine List.forall_mem_cons.mpr ⟨s_goto (off := 5) (by decide +kernel) (by decide), ?_⟩
  refine List.forall_mem_cons.mpr ⟨s_iload (by decide +kernel) rfl, ?_⟩
  refine List.forall_mem_cons.mpr ⟨s_callv (idx := 163) (k' := k_X9_tideAt) (T := TX9) (N := 54) rfl q5_98 q5_95 q5_97 qs_37 q1_10 de_X9_tideAt (by decide) (by decide +kernel) rfl, ?_⟩
  refine List.forall_mem_cons.mpr ⟨s_aload_n (j := 0) (by decide +kernel) rfl rfl, ?_⟩
  refine List.forall_mem_cons.mpr ⟨s_getf (idx := 46) (C := RX9) (T := TX9) (N := 54) rfl inX9 (by decide) q4_128 (by decide +kernel) rfl, ?_⟩
  refine List.forall_mem_cons.mpr ⟨s_iload_n (j := 2) (by decide +kernel) rfl rfl, ?_⟩
  refine List.forall_mem_cons.mpr ⟨s_iald (by decide +kernel) rfl, ?_⟩
  refine List.forall_mem_cons.mpr ⟨s_iadd (by decide +kernel) rfl, ?_⟩
  refine List.forall_mem_cons.mpr ⟨s_iret rfl (by decide +kernel), ?_⟩
  exact fun q hq => absurd hq List.not_mem_nil
def T_X9_sea : List (Nat × zO) := [(0, o_aload 1 0), (1, o_iload 2 1), (2, o_callv 1 9 k_X9_isTide 5), (5, o_if_eq 33 8), (8, o_aload 9 0), (9, o_iload 10 2), (10, o_callv 1 9 k_X9_isWind 13), (13, o_if_eq 33 16), (16, o_iload 17 3), (17, o_calls 1 k_X9_isMinute 20), (20, o_if_eq 33 23), (23, o_aload 24 0), (24, o_iload 25 1), (25, o_iload 26 2), (26, o_iload 27 3), (27, o_callv 3 9 k_X9_seaAt 30), (30, o_goto 35), (33, o_const 35 (-2000000000)), (35, o_iret)]
set_option maxRecDepth 20000 in
theorem t_X9_sea : ∀ q ∈ T_X9_sea, zS k_X9_sea q.1 q.2 := by
  unfold T_X9_sea
  refine List.forall_mem_cons.mpr ⟨s_aload_n (j := 0) (by decide +kernel) rfl rfl, ?_⟩
  refine List.forall_mem_cons.mpr ⟨s_iload_n (j := 1) (by decide +kernel) rfl rfl, ?_⟩
  refine List.forall_mem_cons.mpr ⟨s_callv (idx := 167) (k' := k_X9_isTide) (T := TX9) (N := 54) rfl q5_82 q5_79 q5_81 qs_34 q1_10 de_X9_isTide (by decide) (by decide +kernel) rfl, ?_⟩
  refine List.forall_mem_cons.mpr ⟨s_if_eq (off := 28) (by decide +kernel) (by decide) rfl, ?_⟩
  refine List.forall_mem_cons.mpr ⟨s_aload_n (j := 0) (by decide +kernel) rfl rfl, ?_⟩
  refine List.forall_mem_cons.mpr ⟨s_iload_n (j := 2) (by decide +kernel) rfl rfl, ?_⟩
  refine List.forall_mem_cons.mpr ⟨s_callv (idx := 171) (k' := k_X9_isWind) (T := TX9) (N := 54) rfl q5_86 q5_83 q5_85 qs_35 q1_10 de_X9_isWind (by decide) (by decide +kernel) rfl, ?_⟩
  refine List.forall_mem_cons.mpr ⟨s_if_eq (off := 20) (by decide +kernel) (by decide) rfl, ?_⟩
  refine List.forall_mem_cons.mpr ⟨s_iload_n (j := 3) (by decide +kernel) rfl rfl, ?_⟩
  refine List.forall_mem_cons.mpr ⟨s_calls (idx := 174) (k' := k_X9_isMinute) q5_89 q5_87 q5_88 q1_10 de_X9_isMinute (by decide) (by decide +kernel) rfl, ?_⟩
  refine List.forall_mem_cons.mpr ⟨s_if_eq (off := 13) (by decide +kernel) (by decide) rfl, ?_⟩
  refine List.forall_mem_cons.mpr ⟨s_aload_n (j := 0) (by decide +kernel) rfl rfl, ?_⟩
  refine List.forall_mem_cons.mpr ⟨s_iload_n (j := 1) (by decide +kernel) rfl rfl, ?_⟩
  refine List.forall_mem_cons.mpr ⟨s_iload_n (j := 2) (by decide +kernel) rfl rfl, ?_⟩
  refine List.forall_mem_cons.mpr ⟨s_iload_n (j := 3) (by decide +kernel) rfl rfl, ?_⟩
  refine List.forall_mem_cons.mpr ⟨s_callv (idx := 177) (k' := k_X9_seaAt) (T := TX9) (N := 54) rfl q5_94 q5_91 q5_93 qs_36 q1_10 de_X9_seaAt (by decide) (by decide +kernel) rfl, ?_⟩
  refine List.forall_mem_cons.mpr ⟨s_goto (off := 5) (by decide +kernel) (by decide), ?_⟩
  refine List.forall_mem_cons.mpr ⟨s_ldc (idx := 180) (v := (-2000000000)) (by decide +kernel) q5_99 (by decide) rfl, ?_⟩
  refine List.forall_mem_cons.mpr ⟨s_iret rfl (by decide +kernel), ?_⟩
  exact fun q hq => absurd hq List.not_mem_nil
def T_X9_isPlace : List (Nat × zO) := [(0, o_iload 1 1), (1, o_i2l 2), (2, o_lconst 3 0), (3, o_aload 4 0), (4, o_getf 7 9 20), (7, o_const 8 1), (8, o_isub 9), (9, o_i2l 10), (10, o_calls 3 k_X9_within 13), (13, o_zret)]
set_option maxRecDepth 20000 in
theorem t_X9_isPlace : ∀ q ∈ T_X9_isPlace, zS k_X9_isPlace q.1 q.2 := by
  unfold T_X9_isPlace
  refine List.forall_mem_cons.mpr ⟨s_iload_n (j := 1) (by decide +kernel) rfl rfl, ?_⟩
  refine List.forall_mem_cons.mpr ⟨s_i2l (by decide +kernel) rfl, ?_⟩
  refine List.forall_mem_cons.mpr ⟨s_lconst (z := 0) (by decide +kernel) (by decide) rfl, ?_⟩
  refine List.forall_mem_cons.mpr ⟨s_aload_n (j := 0) (by decide +kernel) rfl rfl, ?_⟩
  refine List.forall_mem_cons.mpr ⟨s_getf (idx := 181) (C := RX9) (T := TX9) (N := 54) rfl inX9 (by decide) q4_131 (by decide +kernel) rfl, ?_⟩
  refine List.forall_mem_cons.mpr ⟨s_iconst (by decide +kernel) rfl, ?_⟩
  refine List.forall_mem_cons.mpr ⟨s_isub (by decide +kernel) rfl, ?_⟩
  refine List.forall_mem_cons.mpr ⟨s_i2l (by decide +kernel) rfl, ?_⟩
  refine List.forall_mem_cons.mpr ⟨s_calls (idx := 5) (k' := k_X9_within) q5_50 q5_48 q5_49 q1_10 de_X9_within (by decide) (by decide +kernel) rfl, ?_⟩
  refine List.forall_mem_cons.mpr ⟨s_zret rfl (by decide +kernel), ?_⟩
  exact fun q hq => absurd hq List.not_mem_nil
def T_X9_isWay : List (Nat × zO) := [(0, o_iload 1 1), (1, o_i2l 2), (2, o_lconst 3 0), (3, o_aload 4 0), (4, o_getf 7 9 21), (7, o_const 8 1), (8, o_isub 9), (9, o_i2l 10), (10, o_calls 3 k_X9_within 13), (13, o_zret)]
set_option maxRecDepth 20000 in
theorem t_X9_isWay : ∀ q ∈ T_X9_isWay, zS k_X9_isWay q.1 q.2 := by
  unfold T_X9_isWay
  refine List.forall_mem_cons.mpr ⟨s_iload_n (j := 1) (by decide +kernel) rfl rfl, ?_⟩
  refine List.forall_mem_cons.mpr ⟨s_i2l (by decide +kernel) rfl, ?_⟩
  refine List.forall_mem_cons.mpr ⟨s_lconst (z := 0) (by decide +kernel) (by decide) rfl, ?_⟩
  refine List.forall_mem_cons.mpr ⟨s_aload_n (j := 0) (by decide +kernel) rfl rfl, ?_⟩
  refine List.forall_mem_cons.mpr ⟨s_getf (idx := 184) (C := RX9) (T := TX9) (N := 54) rfl inX9 (by decide) q4_132 (by decide +kernel) rfl, ?_⟩
  refine List.forall_mem_cons.mpr ⟨s_iconst (by decide +kernel) rfl, ?_⟩
  refine List.forall_mem_cons.mpr ⟨s_isub (by decide +kernel) rfl, ?_⟩
  refine List.forall_mem_cons.mpr ⟨s_i2l (by decide +kernel) rfl, ?_⟩
  refine List.forall_mem_cons.mpr ⟨s_calls (idx := 5) (k' := k_X9_within) q5_50 q5_48 q5_49 q1_10 de_X9_within (by decide) (by decide +kernel) rfl, ?_⟩
  refine List.forall_mem_cons.mpr ⟨s_zret rfl (by decide +kernel), ?_⟩
  exact fun q hq => absurd hq List.not_mem_nil
def T_X9_place : List (Nat × zO) := [(0, o_iload 1 1), (1, o_i2l 2), (2, o_lconst 3 0), (3, o_lconst 6 (999)), (6, o_calls 3 k_X9_within 9), (9, o_if_ne 14 12), (12, o_const 13 (-1)), (13, o_iret), (14, o_aload 15 0), (15, o_getf 18 9 20), (18, o_const 20 12), (20, o_icmp_ne 26 23), (23, o_const 25 (-3)), (25, o_iret), (26, o_aload 27 0), (27, o_getf 30 9 0), (30, o_aload 31 0), (31, o_getf 34 9 20), (34, o_iload 35 1), (35, o_iast 36), (36, o_aload 37 0), (37, o_dup 38), (38, o_getf 41 9 20), (41, o_const 42 1), (42, o_iadd 43), (43, o_putf 46 9 20), (46, o_aload 47 0), (47, o_getf 50 9 20), (50, o_const 51 1), (51, o_isub 52), (52, o_iret)]
set_option maxRecDepth 20000 in
theorem t_X9_place : ∀ q ∈ T_X9_place, zS k_X9_place q.1 q.2 := by
  unfold T_X9_place
  refine List.forall_mem_cons.mpr ⟨s_iload_n (j := 1) (by decide +kernel) rfl rfl, ?_⟩
  refine List.forall_mem_cons.mpr ⟨s_i2l (by decide +kernel) rfl, ?_⟩
  refine List.forall_mem_cons.mpr ⟨s_lconst (z := 0) (by decide +kernel) (by decide) rfl, ?_⟩
  refine List.forall_mem_cons.mpr ⟨s_ldc2 (idx := 187) (y := (999)) (by decide +kernel) q5_104 rfl, ?_⟩
  refine List.forall_mem_cons.mpr ⟨s_calls (idx := 5) (k' := k_X9_within) q5_50 q5_48 q5_49 q1_10 de_X9_within (by decide) (by decide +kernel) rfl, ?_⟩
  refine List.forall_mem_cons.mpr ⟨s_if_ne (off := 5) (by decide +kernel) (by decide) rfl, ?_⟩
  refine List.forall_mem_cons.mpr ⟨s_iconst (by decide +kernel) rfl, ?_⟩
  refine List.forall_mem_cons.mpr ⟨s_iret rfl (by decide +kernel), ?_⟩
  refine List.forall_mem_cons.mpr ⟨s_aload_n (j := 0) (by decide +kernel) rfl rfl, ?_⟩
  refine List.forall_mem_cons.mpr ⟨s_getf (idx := 181) (C := RX9) (T := TX9) (N := 54) rfl inX9 (by decide) q4_131 (by decide +kernel) rfl, ?_⟩
  refine List.forall_mem_cons.mpr ⟨s_bipush (by decide +kernel) (by decide) rfl, ?_⟩
  refine List.forall_mem_cons.mpr ⟨s_icmp_ne (off := 6) (by decide +kernel) (by decide) rfl, ?_⟩
  refine List.forall_mem_cons.mpr ⟨s_bipush (by decide +kernel) (by decide) rfl, ?_⟩
  refine List.forall_mem_cons.mpr ⟨s_iret rfl (by decide +kernel), ?_⟩
  refine List.forall_mem_cons.mpr ⟨s_aload_n (j := 0) (by decide +kernel) rfl rfl, ?_⟩
  refine List.forall_mem_cons.mpr ⟨s_getf (idx := 15) (C := RX9) (T := TX9) (N := 54) rfl inX9 (by decide) q4_111 (by decide +kernel) rfl, ?_⟩
  refine List.forall_mem_cons.mpr ⟨s_aload_n (j := 0) (by decide +kernel) rfl rfl, ?_⟩
  refine List.forall_mem_cons.mpr ⟨s_getf (idx := 181) (C := RX9) (T := TX9) (N := 54) rfl inX9 (by decide) q4_131 (by decide +kernel) rfl, ?_⟩
  refine List.forall_mem_cons.mpr ⟨s_iload_n (j := 1) (by decide +kernel) rfl rfl, ?_⟩
  refine List.forall_mem_cons.mpr ⟨s_iast (by decide +kernel) rfl, ?_⟩
  refine List.forall_mem_cons.mpr ⟨s_aload_n (j := 0) (by decide +kernel) rfl rfl, ?_⟩
  refine List.forall_mem_cons.mpr ⟨s_dup (by decide +kernel) rfl, ?_⟩
  refine List.forall_mem_cons.mpr ⟨s_getf (idx := 181) (C := RX9) (T := TX9) (N := 54) rfl inX9 (by decide) q4_131 (by decide +kernel) rfl, ?_⟩
  refine List.forall_mem_cons.mpr ⟨s_iconst (by decide +kernel) rfl, ?_⟩
  refine List.forall_mem_cons.mpr ⟨s_iadd (by decide +kernel) rfl, ?_⟩
  refine List.forall_mem_cons.mpr ⟨s_putf (idx := 181) (C := RX9) (T := TX9) (N := 54) rfl inX9 tyX9_ok nmX9 (by decide) rfl (tyX9_ok 20 (by decide)) (Or.inl ⟨rfl, kdI 9 20 (by decide)⟩) q4_131 (by decide +kernel) rfl, ?_⟩
  refine List.forall_mem_cons.mpr ⟨s_aload_n (j := 0) (by decide +kernel) rfl rfl, ?_⟩
  refine List.forall_mem_cons.mpr ⟨s_getf (idx := 181) (C := RX9) (T := TX9) (N := 54) rfl inX9 (by decide) q4_131 (by decide +kernel) rfl, ?_⟩
  refine List.forall_mem_cons.mpr ⟨s_iconst (by decide +kernel) rfl, ?_⟩
  refine List.forall_mem_cons.mpr ⟨s_isub (by decide +kernel) rfl, ?_⟩
  refine List.forall_mem_cons.mpr ⟨s_iret rfl (by decide +kernel), ?_⟩
  exact fun q hq => absurd hq List.not_mem_nil
def T_X9_areTwo : List (Nat × zO) := [(0, o_iload 1 1), (1, o_if_lt 41 4), (4, o_aload 5 0), (5, o_iload 6 1), (6, o_const 8 100), (8, o_idiv 9), (9, o_callv 1 9 k_X9_isPlace 12), (12, o_if_eq 41 15), (15, o_aload 16 0), (16, o_iload 17 1), (17, o_const 19 100), (19, o_irem 20), (20, o_callv 1 9 k_X9_isPlace 23), (23, o_if_eq 41 26), (26, o_iload 27 1), (27, o_const 29 100), (29, o_idiv 30), (30, o_iload 31 1), (31, o_const 33 100), (33, o_irem 34), (34, o_icmp_eq 41 37), (37, o_const 38 1), (38, o_goto 42), (41, o_const 42 0), (42, o_zret)]
set_option maxRecDepth 20000 in
theorem t_X9_areTwo : ∀ q ∈ T_X9_areTwo, zS k_X9_areTwo q.1 q.2 := by
  unfold T_X9_areTwo
  refine List.forall_mem_cons.mpr ⟨s_iload_n (j := 1) (by decide +kernel) rfl rfl, ?_⟩
  refine List.forall_mem_cons.mpr ⟨s_if_lt (off := 40) (by decide +kernel) (by decide) rfl, ?_⟩
  refine List.forall_mem_cons.mpr ⟨s_aload_n (j := 0) (by decide +kernel) rfl rfl, ?_⟩
  refine List.forall_mem_cons.mpr ⟨s_iload_n (j := 1) (by decide +kernel) rfl rfl, ?_⟩
  refine List.forall_mem_cons.mpr ⟨s_bipush (by decide +kernel) (by decide) rfl, ?_⟩
  refine List.forall_mem_cons.mpr ⟨s_idiv (by decide +kernel) rfl, ?_⟩
  refine List.forall_mem_cons.mpr ⟨s_callv (idx := 189) (k' := k_X9_isPlace) (T := TX9) (N := 54) rfl q5_116 q5_113 q5_115 qs_39 q1_10 de_X9_isPlace (by decide) (by decide +kernel) rfl, ?_⟩
  refine List.forall_mem_cons.mpr ⟨s_if_eq (off := 29) (by decide +kernel) (by decide) rfl, ?_⟩
  refine List.forall_mem_cons.mpr ⟨s_aload_n (j := 0) (by decide +kernel) rfl rfl, ?_⟩
  refine List.forall_mem_cons.mpr ⟨s_iload_n (j := 1) (by decide +kernel) rfl rfl, ?_⟩
  refine List.forall_mem_cons.mpr ⟨s_bipush (by decide +kernel) (by decide) rfl, ?_⟩
  refine List.forall_mem_cons.mpr ⟨s_irem (by decide +kernel) rfl, ?_⟩
  refine List.forall_mem_cons.mpr ⟨s_callv (idx := 189) (k' := k_X9_isPlace) (T := TX9) (N := 54) rfl q5_116 q5_113 q5_115 qs_39 q1_10 de_X9_isPlace (by decide) (by decide +kernel) rfl, ?_⟩
  refine List.forall_mem_cons.mpr ⟨s_if_eq (off := 18) (by decide +kernel) (by decide) rfl, ?_⟩
  refine List.forall_mem_cons.mpr ⟨s_iload_n (j := 1) (by decide +kernel) rfl rfl, ?_⟩
  refine List.forall_mem_cons.mpr ⟨s_bipush (by decide +kernel) (by decide) rfl, ?_⟩
  refine List.forall_mem_cons.mpr ⟨s_idiv (by decide +kernel) rfl, ?_⟩
  refine List.forall_mem_cons.mpr ⟨s_iload_n (j := 1) (by decide +kernel) rfl rfl, ?_⟩
  refine List.forall_mem_cons.mpr ⟨s_bipush (by decide +kernel) (by decide) rfl, ?_⟩
  refine List.forall_mem_cons.mpr ⟨s_irem (by decide +kernel) rfl, ?_⟩
  refine List.forall_mem_cons.mpr ⟨s_icmp_eq (off := 7) (by decide +kernel) (by decide) rfl, ?_⟩
  refine List.forall_mem_cons.mpr ⟨s_iconst (by decide +kernel) rfl, ?_⟩
  refine List.forall_mem_cons.mpr ⟨s_goto (off := 4) (by decide +kernel) (by decide), ?_⟩
  refine List.forall_mem_cons.mpr ⟨s_iconst (by decide +kernel) rfl, ?_⟩
  refine List.forall_mem_cons.mpr ⟨s_zret rfl (by decide +kernel), ?_⟩
  exact fun q hq => absurd hq List.not_mem_nil
def T_X9_way : List (Nat × zO) := [(0, o_aload 1 0), (1, o_iload 2 1), (2, o_callv 1 9 k_X9_areTwo 5), (5, o_if_eq 28 8), (8, o_iload 9 2), (9, o_if_lt 28 12), (12, o_iload 13 2), (13, o_const 16 1000), (16, o_idiv 17), (17, o_i2l 18), (18, o_lconst 19 1), (19, o_lconst 22 (90)), (22, o_calls 3 k_X9_within 25), (25, o_if_ne 30 28), (28, o_const 29 (-1)), (29, o_iret), (30, o_aload 31 0), (31, o_getf 34 9 21), (34, o_const 36 24), (36, o_icmp_ne 42 39), (39, o_const 41 (-3)), (41, o_iret), (42, o_aload 43 0), (43, o_getf 46 9 22), (46, o_aload 47 0), (47, o_getf 50 9 21), (50, o_iload 51 1), (51, o_const 53 100), (53, o_idiv 54), (54, o_iast 55), (55, o_aload 56 0), (56, o_getf 59 9 23), (59, o_aload 60 0), (60, o_getf 63 9 21), (63, o_iload 64 1), (64, o_const 66 100), (66, o_irem 67), (67, o_iast 68), (68, o_aload 69 0), (69, o_getf 72 9 24), (72, o_aload 73 0), (73, o_getf 76 9 21), (76, o_iload 77 2), (77, o_const 80 1000), (80, o_idiv 81), (81, o_iast 82), (82, o_aload 83 0), (83, o_getf 86 9 0), (86, o_const 88 12), (88, o_aload 89 0), (89, o_getf 92 9 21), (92, o_iadd 93), (93, o_iload 94 2), (94, o_const 97 1000), (97, o_irem 98), (98, o_iast 99), (99, o_aload 100 0), (100, o_getf 103 9 0), (103, o_const 105 36), (105, o_aload 106 0), (106, o_getf 109 9 21), (109, o_iadd 110), (110, o_const 111 0), (111, o_iast 112), (112, o_aload 113 0), (113, o_getf 116 9 0), (116, o_const 118 60), (118, o_aload 119 0), (119, o_getf 122 9 21), (122, o_iadd 123), (123, o_const 126 1439), (126, o_iast 127), (127, o_aload 128 0), (128, o_dup 129), (129, o_getf 132 9 21), (132, o_const 133 1), (133, o_iadd 134), (134, o_putf 137 9 21), (137, o_aload 138 0), (138, o_getf 141 9 21), (141, o_const 142 1), (142, o_isub 143), (143, o_iret)]
set_option maxRecDepth 20000 in
theorem t_X9_way : ∀ q ∈ T_X9_way, zS k_X9_way q.1 q.2 := by
  unfold T_X9_way
  refine List.forall_mem_cons.mpr ⟨s_aload_n (j := 0) (by decide +kernel) rfl rfl, ?_⟩
  refine List.forall_mem_cons.mpr ⟨s_iload_n (j := 1) (by decide +kernel) rfl rfl, ?_⟩
  refine List.forall_mem_cons.mpr ⟨s_callv (idx := 192) (k' := k_X9_areTwo) (T := TX9) (N := 54) rfl q5_112 q5_109 q5_111 qs_38 q1_10 de_X9_areTwo (by decide) (by decide +kernel) rfl, ?_⟩
  refine List.forall_mem_cons.mpr ⟨s_if_eq (off := 23) (by decide +kernel) (by decide) rfl, ?_⟩
  refine List.forall_mem_cons.mpr ⟨s_iload_n (j := 2) (by decide +kernel) rfl rfl, ?_⟩
  refine List.forall_mem_cons.mpr ⟨s_if_lt (off := 19) (by decide +kernel) (by decide) rfl, ?_⟩
  refine List.forall_mem_cons.mpr ⟨s_iload_n (j := 2) (by decide +kernel) rfl rfl, ?_⟩
  refine List.forall_mem_cons.mpr ⟨s_sipush (by decide +kernel) (by decide) rfl, ?_⟩
  refine List.forall_mem_cons.mpr ⟨s_idiv (by decide +kernel) rfl, ?_⟩
  refine List.forall_mem_cons.mpr ⟨s_i2l (by decide +kernel) rfl, ?_⟩
  refine List.forall_mem_cons.mpr ⟨s_lconst (z := 1) (by decide +kernel) (by decide) rfl, ?_⟩
  refine List.forall_mem_cons.mpr ⟨s_ldc2 (idx := 195) (y := (90)) (by decide +kernel) q5_117 rfl, ?_⟩
  refine List.forall_mem_cons.mpr ⟨s_calls (idx := 5) (k' := k_X9_within) q5_50 q5_48 q5_49 q1_10 de_X9_within (by decide) (by decide +kernel) rfl, ?_⟩
  refine List.forall_mem_cons.mpr ⟨s_if_ne (off := 5) (by decide +kernel) (by decide) rfl, ?_⟩
  refine List.forall_mem_cons.mpr ⟨s_iconst (by decide +kernel) rfl, ?_⟩
  refine List.forall_mem_cons.mpr ⟨s_iret rfl (by decide +kernel), ?_⟩
  refine List.forall_mem_cons.mpr ⟨s_aload_n (j := 0) (by decide +kernel) rfl rfl, ?_⟩
  refine List.forall_mem_cons.mpr ⟨s_getf (idx := 184) (C := RX9) (T := TX9) (N := 54) rfl inX9 (by decide) q4_132 (by decide +kernel) rfl, ?_⟩
  refine List.forall_mem_cons.mpr ⟨s_bipush (by decide +kernel) (by decide) rfl, ?_⟩
  refine List.forall_mem_cons.mpr ⟨s_icmp_ne (off := 6) (by decide +kernel) (by decide) rfl, ?_⟩
  refine List.forall_mem_cons.mpr ⟨s_bipush (by decide +kernel) (by decide) rfl, ?_⟩
  refine List.forall_mem_cons.mpr ⟨s_iret rfl (by decide +kernel), ?_⟩
  refine List.forall_mem_cons.mpr ⟨s_aload_n (j := 0) (by decide +kernel) rfl rfl, ?_⟩
  refine List.forall_mem_cons.mpr ⟨s_getf (idx := 55) (C := RX9) (T := TX9) (N := 54) rfl inX9 (by decide) q4_133 (by decide +kernel) rfl, ?_⟩
  refine List.forall_mem_cons.mpr ⟨s_aload_n (j := 0) (by decide +kernel) rfl rfl, ?_⟩
  refine List.forall_mem_cons.mpr ⟨s_getf (idx := 184) (C := RX9) (T := TX9) (N := 54) rfl inX9 (by decide) q4_132 (by decide +kernel) rfl, ?_⟩
  refine List.forall_mem_cons.mpr ⟨s_iload_n (j := 1) (by decide +kernel) rfl rfl, ?_⟩
  refine List.forall_mem_cons.mpr ⟨s_bipush (by decide +kernel) (by decide) rfl, ?_⟩
  refine List.forall_mem_cons.mpr ⟨s_idiv (by decide +kernel) rfl, ?_⟩
  refine List.forall_mem_cons.mpr ⟨s_iast (by decide +kernel) rfl, ?_⟩
  refine List.forall_mem_cons.mpr ⟨s_aload_n (j := 0) (by decide +kernel) rfl rfl, ?_⟩
  refine List.forall_mem_cons.mpr ⟨s_getf (idx := 58) (C := RX9) (T := TX9) (N := 54) rfl inX9 (by decide) q4_134 (by decide +kernel) rfl, ?_⟩
  refine List.forall_mem_cons.mpr ⟨s_aload_n (j := 0) (by decide +kernel) rfl rfl, ?_⟩
  refine List.forall_mem_cons.mpr ⟨s_getf (idx := 184) (C := RX9) (T := TX9) (N := 54) rfl inX9 (by decide) q4_132 (by decide +kernel) rfl, ?_⟩
  refine List.forall_mem_cons.mpr ⟨s_iload_n (j := 1) (by decide +kernel) rfl rfl, ?_⟩
  refine List.forall_mem_cons.mpr ⟨s_bipush (by decide +kernel) (by decide) rfl, ?_⟩
  refine List.forall_mem_cons.mpr ⟨s_irem (by decide +kernel) rfl, ?_⟩
  refine List.forall_mem_cons.mpr ⟨s_iast (by decide +kernel) rfl, ?_⟩
  refine List.forall_mem_cons.mpr ⟨s_aload_n (j := 0) (by decide +kernel) rfl rfl, ?_⟩
  refine List.forall_mem_cons.mpr ⟨s_getf (idx := 61) (C := RX9) (T := TX9) (N := 54) rfl inX9 (by decide) q4_135 (by decide +kernel) rfl, ?_⟩
  refine List.forall_mem_cons.mpr ⟨s_aload_n (j := 0) (by decide +kernel) rfl rfl, ?_⟩
  refine List.forall_mem_cons.mpr ⟨s_getf (idx := 184) (C := RX9) (T := TX9) (N := 54) rfl inX9 (by decide) q4_132 (by decide +kernel) rfl, ?_⟩
  refine List.forall_mem_cons.mpr ⟨s_iload_n (j := 2) (by decide +kernel) rfl rfl, ?_⟩
  refine List.forall_mem_cons.mpr ⟨s_sipush (by decide +kernel) (by decide) rfl, ?_⟩
  refine List.forall_mem_cons.mpr ⟨s_idiv (by decide +kernel) rfl, ?_⟩
  refine List.forall_mem_cons.mpr ⟨s_iast (by decide +kernel) rfl, ?_⟩
  refine List.forall_mem_cons.mpr ⟨s_aload_n (j := 0) (by decide +kernel) rfl rfl, ?_⟩
  refine List.forall_mem_cons.mpr ⟨s_getf (idx := 15) (C := RX9) (T := TX9) (N := 54) rfl inX9 (by decide) q4_111 (by decide +kernel) rfl, ?_⟩
  refine List.forall_mem_cons.mpr ⟨s_bipush (by decide +kernel) (by decide) rfl, ?_⟩
  refine List.forall_mem_cons.mpr ⟨s_aload_n (j := 0) (by decide +kernel) rfl rfl, ?_⟩
  refine List.forall_mem_cons.mpr ⟨s_getf (idx := 184) (C := RX9) (T := TX9) (N := 54) rfl inX9 (by decide) q4_132 (by decide +kernel) rfl, ?_⟩
  refine List.forall_mem_cons.mpr ⟨s_iadd (by decide +kernel) rfl, ?_⟩
  refine List.forall_mem_cons.mpr ⟨s_iload_n (j := 2) (by decide +kernel) rfl rfl, ?_⟩
  refine List.forall_mem_cons.mpr ⟨s_sipush (by decide +kernel) (by decide) rfl, ?_⟩
  refine List.forall_mem_cons.mpr ⟨s_irem (by decide +kernel) rfl, ?_⟩
  refine List.forall_mem_cons.mpr ⟨s_iast (by decide +kernel) rfl, ?_⟩
  refine List.forall_mem_cons.mpr ⟨s_aload_n (j := 0) (by decide +kernel) rfl rfl, ?_⟩
  refine List.forall_mem_cons.mpr ⟨s_getf (idx := 15) (C := RX9) (T := TX9) (N := 54) rfl inX9 (by decide) q4_111 (by decide +kernel) rfl, ?_⟩
  refine List.forall_mem_cons.mpr ⟨s_bipush (by decide +kernel) (by decide) rfl, ?_⟩
  refine List.forall_mem_cons.mpr ⟨s_aload_n (j := 0) (by decide +kernel) rfl rfl, ?_⟩
  refine List.forall_mem_cons.mpr ⟨s_getf (idx := 184) (C := RX9) (T := TX9) (N := 54) rfl inX9 (by decide) q4_132 (by decide +kernel) rfl, ?_⟩
  refine List.forall_mem_cons.mpr ⟨s_iadd (by decide +kernel) rfl, ?_⟩
  refine List.forall_mem_cons.mpr ⟨s_iconst (by decide +kernel) rfl, ?_⟩
  refine List.forall_mem_cons.mpr ⟨s_iast (by decide +kernel) rfl, ?_⟩
  refine List.forall_mem_cons.mpr ⟨s_aload_n (j := 0) (by decide +kernel) rfl rfl, ?_⟩
  refine List.forall_mem_cons.mpr ⟨s_getf (idx := 15) (C := RX9) (T := TX9) (N := 54) rfl inX9 (by decide) q4_111 (by decide +kernel) rfl, ?_⟩
  refine List.forall_mem_cons.mpr ⟨s_bipush (by decide +kernel) (by decide) rfl, ?_⟩
  refine List.forall_mem_cons.mpr ⟨s_aload_n (j := 0) (by decide +kernel) rfl rfl, ?_⟩
  refine List.forall_mem_cons.mpr ⟨s_getf (idx := 184) (C := RX9) (T := TX9) (N := 54) rfl inX9 (by decide) q4_132 (by decide +kernel) rfl, ?_⟩
  refine List.forall_mem_cons.mpr ⟨s_iadd (by decide +kernel) rfl, ?_⟩
  refine List.forall_mem_cons.mpr ⟨s_sipush (by decide +kernel) (by decide) rfl, ?_⟩
  refine List.forall_mem_cons.mpr ⟨s_iast (by decide +kernel) rfl, ?_⟩
  refine List.forall_mem_cons.mpr ⟨s_aload_n (j := 0) (by decide +kernel) rfl rfl, ?_⟩
  refine List.forall_mem_cons.mpr ⟨s_dup (by decide +kernel) rfl, ?_⟩
  refine List.forall_mem_cons.mpr ⟨s_getf (idx := 184) (C := RX9) (T := TX9) (N := 54) rfl inX9 (by decide) q4_132 (by decide +kernel) rfl, ?_⟩
  refine List.forall_mem_cons.mpr ⟨s_iconst (by decide +kernel) rfl, ?_⟩
  refine List.forall_mem_cons.mpr ⟨s_iadd (by decide +kernel) rfl, ?_⟩
  refine List.forall_mem_cons.mpr ⟨s_putf (idx := 184) (C := RX9) (T := TX9) (N := 54) rfl inX9 tyX9_ok nmX9 (by decide) rfl (tyX9_ok 21 (by decide)) (Or.inl ⟨rfl, kdI 9 21 (by decide)⟩) q4_132 (by decide +kernel) rfl, ?_⟩
  refine List.forall_mem_cons.mpr ⟨s_aload_n (j := 0) (by decide +kernel) rfl rfl, ?_⟩
  refine List.forall_mem_cons.mpr ⟨s_getf (idx := 184) (C := RX9) (T := TX9) (N := 54) rfl inX9 (by decide) q4_132 (by decide +kernel) rfl, ?_⟩
  refine List.forall_mem_cons.mpr ⟨s_iconst (by decide +kernel) rfl, ?_⟩
  refine List.forall_mem_cons.mpr ⟨s_isub (by decide +kernel) rfl, ?_⟩
  refine List.forall_mem_cons.mpr ⟨s_iret rfl (by decide +kernel), ?_⟩
  exact fun q hq => absurd hq List.not_mem_nil
def T_X9_safe : List (Nat × zO) := [(0, o_aload 1 0), (1, o_iload 2 1), (2, o_callv 1 9 k_X9_isPlace 5), (5, o_if_eq 29 8), (8, o_iload 9 2), (9, o_i2l 10), (10, o_lconst 11 0), (11, o_lconst 14 (999)), (14, o_calls 3 k_X9_within 17), (17, o_if_eq 29 20), (20, o_aload 21 0), (21, o_iload 22 1), (22, o_iload 23 2), (23, o_callv 2 9 k_X9_becomes 26), (26, o_goto 30), (29, o_const 30 (-1)), (30, o_iret)]
set_option maxRecDepth 20000 in
theorem t_X9_safe : ∀ q ∈ T_X9_safe, zS k_X9_safe q.1 q.2 := by
  unfold T_X9_safe
  refine List.forall_mem_cons.mpr ⟨s_aload_n (j := 0) (by decide +kernel) rfl rfl, ?_⟩
  refine List.forall_mem_cons.mpr ⟨s_iload_n (j := 1) (by decide +kernel) rfl rfl, ?_⟩
  refine List.forall_mem_cons.mpr ⟨s_callv (idx := 189) (k' := k_X9_isPlace) (T := TX9) (N := 54) rfl q5_116 q5_113 q5_115 qs_39 q1_10 de_X9_isPlace (by decide) (by decide +kernel) rfl, ?_⟩
  refine List.forall_mem_cons.mpr ⟨s_if_eq (off := 24) (by decide +kernel) (by decide) rfl, ?_⟩
  refine List.forall_mem_cons.mpr ⟨s_iload_n (j := 2) (by decide +kernel) rfl rfl, ?_⟩
  refine List.forall_mem_cons.mpr ⟨s_i2l (by decide +kernel) rfl, ?_⟩
  refine List.forall_mem_cons.mpr ⟨s_lconst (z := 0) (by decide +kernel) (by decide) rfl, ?_⟩
  refine List.forall_mem_cons.mpr ⟨s_ldc2 (idx := 187) (y := (999)) (by decide +kernel) q5_104 rfl, ?_⟩
  refine List.forall_mem_cons.mpr ⟨s_calls (idx := 5) (k' := k_X9_within) q5_50 q5_48 q5_49 q1_10 de_X9_within (by decide) (by decide +kernel) rfl, ?_⟩
  refine List.forall_mem_cons.mpr ⟨s_if_eq (off := 12) (by decide +kernel) (by decide) rfl, ?_⟩
  refine List.forall_mem_cons.mpr ⟨s_aload_n (j := 0) (by decide +kernel) rfl rfl, ?_⟩
  refine List.forall_mem_cons.mpr ⟨s_iload_n (j := 1) (by decide +kernel) rfl rfl, ?_⟩
  refine List.forall_mem_cons.mpr ⟨s_iload_n (j := 2) (by decide +kernel) rfl rfl, ?_⟩
  refine List.forall_mem_cons.mpr ⟨s_callv (idx := 197) (k' := k_X9_becomes) (T := TX9) (N := 54) rfl q5_125 q5_122 q5_124 qs_40 q1_10 de_X9_becomes (by decide) (by decide +kernel) rfl, ?_⟩
  refine List.forall_mem_cons.mpr ⟨s_goto (off := 4) (by decide +kernel) (by decide), ?_⟩
  refine List.forall_mem_cons.mpr ⟨s_iconst (by decide +kernel) rfl, ?_⟩
  refine List.forall_mem_cons.mpr ⟨s_iret rfl (by decide +kernel), ?_⟩
  exact fun q hq => absurd hq List.not_mem_nil
def T_X9_alter : List (Nat × zO) := [(0, o_aload 1 0), (1, o_iload 2 1), (2, o_callv 1 9 k_X9_isWay 5), (5, o_if_ne 10 8), (8, o_const 9 (-1)), (9, o_iret), (10, o_iload 11 2), (11, o_tsw 0 2 [36, 62, 95] 130), (36, o_iload 37 3), (37, o_i2l 38), (38, o_lconst 39 0), (39, o_lconst 42 (999)), (42, o_calls 3 k_X9_within 45), (45, o_if_eq 60 48), (48, o_aload 49 0), (49, o_const 51 12), (51, o_iload 52 1), (52, o_iadd 53), (53, o_iload 54 3), (54, o_callv 2 9 k_X9_becomes 57), (57, o_goto 61), (60, o_const 61 (-1)), (61, o_iret), (62, o_iload 63 3), (63, o_i2l 64), (64, o_lconst 65 0), (65, o_aload 66 0), (66, o_getf 69 9 0), (69, o_const 71 60), (71, o_iload 72 1), (72, o_iadd 73), (73, o_iald 74), (74, o_i2l 75), (75, o_calls 3 k_X9_within 78), (78, o_if_eq 93 81), (81, o_aload 82 0), (82, o_const 84 36), (84, o_iload 85 1), (85, o_iadd 86), (86, o_iload 87 3), (87, o_callv 2 9 k_X9_becomes 90), (90, o_goto 94), (93, o_const 94 (-1)), (94, o_iret), (95, o_iload 96 3), (96, o_i2l 97), (97, o_aload 98 0), (98, o_getf 101 9 0), (101, o_const 103 36), (103, o_iload 104 1), (104, o_iadd 105), (105, o_iald 106), (106, o_i2l 107), (107, o_lconst 110 (1439)), (110, o_calls 3 k_X9_within 113), (113, o_if_eq 128 116), (116, o_aload 117 0), (117, o_const 119 60), (119, o_iload 120 1), (120, o_iadd 121), (121, o_iload 122 3), (122, o_callv 2 9 k_X9_becomes 125), (125, o_goto 129), (128, o_const 129 (-1)), (129, o_iret), (130, o_const 131 (-1)), (131, o_iret)]
set_option maxRecDepth 20000 in
theorem t_X9_alter : ∀ q ∈ T_X9_alter, zS k_X9_alter q.1 q.2 := by
  unfold T_X9_alter
  refine List.forall_mem_cons.mpr ⟨s_aload_n (j := 0) (by decide +kernel) rfl rfl, ?_⟩
  refine List.forall_mem_cons.mpr ⟨s_iload_n (j := 1) (by decide +kernel) rfl rfl, ?_⟩
  refine List.forall_mem_cons.mpr ⟨s_callv (idx := 200) (k' := k_X9_isWay) (T := TX9) (N := 54) rfl q5_133 q5_130 q5_132 qs_41 q1_10 de_X9_isWay (by decide) (by decide +kernel) rfl, ?_⟩
  refine List.forall_mem_cons.mpr ⟨s_if_ne (off := 5) (by decide +kernel) (by decide) rfl, ?_⟩
  refine List.forall_mem_cons.mpr ⟨s_iconst (by decide +kernel) rfl, ?_⟩
  refine List.forall_mem_cons.mpr ⟨s_iret rfl (by decide +kernel), ?_⟩
  refine List.forall_mem_cons.mpr ⟨s_iload_n (j := 2) (by decide +kernel) rfl rfl, ?_⟩
  refine List.forall_mem_cons.mpr ⟨s_tsw (dfo := 119) (offs := #[25, 51, 84]) (len := 25) (by decide +kernel) (by decide) (by decide) (by decide), ?_⟩
  refine List.forall_mem_cons.mpr ⟨s_iload_n (j := 3) (by decide +kernel) rfl rfl, ?_⟩
  refine List.forall_mem_cons.mpr ⟨s_i2l (by decide +kernel) rfl, ?_⟩
  refine List.forall_mem_cons.mpr ⟨s_lconst (z := 0) (by decide +kernel) (by decide) rfl, ?_⟩
  refine List.forall_mem_cons.mpr ⟨s_ldc2 (idx := 187) (y := (999)) (by decide +kernel) q5_104 rfl, ?_⟩
  refine List.forall_mem_cons.mpr ⟨s_calls (idx := 5) (k' := k_X9_within) q5_50 q5_48 q5_49 q1_10 de_X9_within (by decide) (by decide +kernel) rfl, ?_⟩
  refine List.forall_mem_cons.mpr ⟨s_if_eq (off := 15) (by decide +kernel) (by decide) rfl, ?_⟩
  refine List.forall_mem_cons.mpr ⟨s_aload_n (j := 0) (by decide +kernel) rfl rfl, ?_⟩
  refine List.forall_mem_cons.mpr ⟨s_bipush (by decide +kernel) (by decide) rfl, ?_⟩
  refine List.forall_mem_cons.mpr ⟨s_iload_n (j := 1) (by decide +kernel) rfl rfl, ?_⟩
  refine List.forall_mem_cons.mpr ⟨s_iadd (by decide +kernel) rfl, ?_⟩
  refine List.forall_mem_cons.mpr ⟨s_iload_n (j := 3) (by decide +kernel) rfl rfl, ?_⟩
  refine List.forall_mem_cons.mpr ⟨s_callv (idx := 197) (k' := k_X9_becomes) (T := TX9) (N := 54) rfl q5_125 q5_122 q5_124 qs_40 q1_10 de_X9_becomes (by decide) (by decide +kernel) rfl, ?_⟩
  refine List.forall_mem_cons.mpr ⟨s_goto (off := 4) (by decide +kernel) (by decide), ?_⟩
  refine List.forall_mem_cons.mpr ⟨s_iconst (by decide +kernel) rfl, ?_⟩
  refine List.forall_mem_cons.mpr ⟨s_iret rfl (by decide +kernel), ?_⟩
  refine List.forall_mem_cons.mpr ⟨s_iload_n (j := 3) (by decide +kernel) rfl rfl, ?_⟩
  refine List.forall_mem_cons.mpr ⟨s_i2l (by decide +kernel) rfl, ?_⟩
  refine List.forall_mem_cons.mpr ⟨s_lconst (z := 0) (by decide +kernel) (by decide) rfl, ?_⟩
  refine List.forall_mem_cons.mpr ⟨s_aload_n (j := 0) (by decide +kernel) rfl rfl, ?_⟩
  refine List.forall_mem_cons.mpr ⟨s_getf (idx := 15) (C := RX9) (T := TX9) (N := 54) rfl inX9 (by decide) q4_111 (by decide +kernel) rfl, ?_⟩
  refine List.forall_mem_cons.mpr ⟨s_bipush (by decide +kernel) (by decide) rfl, ?_⟩
  refine List.forall_mem_cons.mpr ⟨s_iload_n (j := 1) (by decide +kernel) rfl rfl, ?_⟩
  refine List.forall_mem_cons.mpr ⟨s_iadd (by decide +kernel) rfl, ?_⟩
  refine List.forall_mem_cons.mpr ⟨s_iald (by decide +kernel) rfl, ?_⟩
  refine List.forall_mem_cons.mpr ⟨s_i2l (by decide +kernel) rfl, ?_⟩
  refine List.forall_mem_cons.mpr ⟨s_calls (idx := 5) (k' := k_X9_within) q5_50 q5_48 q5_49 q1_10 de_X9_within (by decide) (by decide +kernel) rfl, ?_⟩
  refine List.forall_mem_cons.mpr ⟨s_if_eq (off := 15) (by decide +kernel) (by decide) rfl, ?_⟩
  refine List.forall_mem_cons.mpr ⟨s_aload_n (j := 0) (by decide +kernel) rfl rfl, ?_⟩
  refine List.forall_mem_cons.mpr ⟨s_bipush (by decide +kernel) (by decide) rfl, ?_⟩
  refine List.forall_mem_cons.mpr ⟨s_iload_n (j := 1) (by decide +kernel) rfl rfl, ?_⟩
  refine List.forall_mem_cons.mpr ⟨s_iadd (by decide +kernel) rfl, ?_⟩
  refine List.forall_mem_cons.mpr ⟨s_iload_n (j := 3) (by decide +kernel) rfl rfl, ?_⟩
  refine List.forall_mem_cons.mpr ⟨s_callv (idx := 197) (k' := k_X9_becomes) (T := TX9) (N := 54) rfl q5_125 q5_122 q5_124 qs_40 q1_10 de_X9_becomes (by decide) (by decide +kernel) rfl, ?_⟩
  refine List.forall_mem_cons.mpr ⟨s_goto (off := 4) (by decide +kernel) (by decide), ?_⟩
  refine List.forall_mem_cons.mpr ⟨s_iconst (by decide +kernel) rfl, ?_⟩
  refine List.forall_mem_cons.mpr ⟨s_iret rfl (by decide +kernel), ?_⟩
  refine List.forall_mem_cons.mpr ⟨s_iload_n (j := 3) (by decide +kernel) rfl rfl, ?_⟩
  refine List.forall_mem_cons.mpr ⟨s_i2l (by decide +kernel) rfl, ?_⟩
  refine List.forall_mem_cons.mpr ⟨s_aload_n (j := 0) (by decide +kernel) rfl rfl, ?_⟩
  refine List.forall_mem_cons.mpr ⟨s_getf (idx := 15) (C := RX9) (T := TX9) (N := 54) rfl inX9 (by decide) q4_111 (by decide +kernel) rfl, ?_⟩
  refine List.forall_mem_cons.mpr ⟨s_bipush (by decide +kernel) (by decide) rfl, ?_⟩
  refine List.forall_mem_cons.mpr ⟨s_iload_n (j := 1) (by decide +kernel) rfl rfl, ?_⟩
  refine List.forall_mem_cons.mpr ⟨s_iadd (by decide +kernel) rfl, ?_⟩
  refine List.forall_mem_cons.mpr ⟨s_iald (by decide +kernel) rfl, ?_⟩
  refine List.forall_mem_cons.mpr ⟨s_i2l (by decide +kernel) rfl, ?_⟩
  refine List.forall_mem_cons.mpr ⟨s_ldc2 (idx := 3) (y := (1439)) (by decide +kernel) q5_90 rfl, ?_⟩
  refine List.forall_mem_cons.mpr ⟨s_calls (idx := 5) (k' := k_X9_within) q5_50 q5_48 q5_49 q1_10 de_X9_within (by decide) (by decide +kernel) rfl, ?_⟩
  refine List.forall_mem_cons.mpr ⟨s_if_eq (off := 15) (by decide +kernel) (by decide) rfl, ?_⟩
  refine List.forall_mem_cons.mpr ⟨s_aload_n (j := 0) (by decide +kernel) rfl rfl, ?_⟩
  refine List.forall_mem_cons.mpr ⟨s_bipush (by decide +kernel) (by decide) rfl, ?_⟩
  refine List.forall_mem_cons.mpr ⟨s_iload_n (j := 1) (by decide +kernel) rfl rfl, ?_⟩
  refine List.forall_mem_cons.mpr ⟨s_iadd (by decide +kernel) rfl, ?_⟩
  refine List.forall_mem_cons.mpr ⟨s_iload_n (j := 3) (by decide +kernel) rfl rfl, ?_⟩
  refine List.forall_mem_cons.mpr ⟨s_callv (idx := 197) (k' := k_X9_becomes) (T := TX9) (N := 54) rfl q5_125 q5_122 q5_124 qs_40 q1_10 de_X9_becomes (by decide) (by decide +kernel) rfl, ?_⟩
  refine List.forall_mem_cons.mpr ⟨s_goto (off := 4) (by decide +kernel) (by decide), ?_⟩
  refine List.forall_mem_cons.mpr ⟨s_iconst (by decide +kernel) rfl, ?_⟩
  refine List.forall_mem_cons.mpr ⟨s_iret rfl (by decide +kernel), ?_⟩
  refine List.forall_mem_cons.mpr ⟨s_iconst (by decide +kernel) rfl, ?_⟩
  refine List.forall_mem_cons.mpr ⟨s_iret rfl (by decide +kernel), ?_⟩
  exact fun q hq => absurd hq List.not_mem_nil
def T_X9_isSort : List (Nat × zO) := [(0, o_iload 1 0), (1, o_i2l 2), (2, o_lconst 3 0), (3, o_lconst 6 (3)), (6, o_calls 3 k_X9_within 9), (9, o_zret)]
set_option maxRecDepth 20000 in
theorem t_X9_isSort : ∀ q ∈ T_X9_isSort, zS k_X9_isSort q.1 q.2 := by
  unfold T_X9_isSort
  refine List.forall_mem_cons.mpr ⟨s_iload_n (j := 0) (by decide +kernel) rfl rfl, ?_⟩
  refine List.forall_mem_cons.mpr ⟨s_i2l (by decide +kernel) rfl, ?_⟩
  refine List.forall_mem_cons.mpr ⟨s_lconst (z := 0) (by decide +kernel) (by decide) rfl, ?_⟩
  refine List.forall_mem_cons.mpr ⟨s_ldc2 (idx := 203) (y := (3)) (by decide +kernel) q5_141 rfl, ?_⟩
  refine List.forall_mem_cons.mpr ⟨s_calls (idx := 5) (k' := k_X9_within) q5_50 q5_48 q5_49 q1_10 de_X9_within (by decide) (by decide +kernel) rfl, ?_⟩
  refine List.forall_mem_cons.mpr ⟨s_zret rfl (by decide +kernel), ?_⟩
  exact fun q hq => absurd hq List.not_mem_nil
def T_X9_sort : List (Nat × zO) := [(0, o_iload 1 1), (1, o_calls 1 k_X9_isSort 4), (4, o_if_eq 33 7), (7, o_iload 8 2), (8, o_i2l 9), (9, o_lconst 12 (50)), (12, o_lconst 15 (400)), (15, o_calls 3 k_X9_within 18), (18, o_if_eq 33 21), (21, o_aload 22 0), (22, o_const 24 84), (24, o_iload 25 1), (25, o_iadd 26), (26, o_iload 27 2), (27, o_callv 2 9 k_X9_becomes 30), (30, o_goto 34), (33, o_const 34 (-1)), (34, o_iret)]
set_option maxRecDepth 20000 in
theorem t_X9_sort : ∀ q ∈ T_X9_sort, zS k_X9_sort q.1 q.2 := by
  unfold T_X9_sort
  refine List.forall_mem_cons.mpr ⟨s_iload_n (j := 1) (by decide +kernel) rfl rfl, ?_⟩
  refine List.forall_mem_cons.mpr ⟨s_calls (idx := 205) (k' := k_X9_isSort) q5_140 q5_138 q5_139 q1_10 de_X9_isSort (by decide) (by decide +kernel) rfl, ?_⟩
  refine List.forall_mem_cons.mpr ⟨s_if_eq (off := 29) (by decide +kernel) (by decide) rfl, ?_⟩
  refine List.forall_mem_cons.mpr ⟨s_iload_n (j := 2) (by decide +kernel) rfl rfl, ?_⟩
  refine List.forall_mem_cons.mpr ⟨s_i2l (by decide +kernel) rfl, ?_⟩
  refine List.forall_mem_cons.mpr ⟨s_ldc2 (idx := 208) (y := (50)) (by decide +kernel) q5_142 rfl, ?_⟩
  refine List.forall_mem_cons.mpr ⟨s_ldc2 (idx := 210) (y := (400)) (by decide +kernel) q5_143 rfl, ?_⟩
  refine List.forall_mem_cons.mpr ⟨s_calls (idx := 5) (k' := k_X9_within) q5_50 q5_48 q5_49 q1_10 de_X9_within (by decide) (by decide +kernel) rfl, ?_⟩
  refine List.forall_mem_cons.mpr ⟨s_if_eq (off := 15) (by decide +kernel) (by decide) rfl, ?_⟩
  refine List.forall_mem_cons.mpr ⟨s_aload_n (j := 0) (by decide +kernel) rfl rfl, ?_⟩
  refine List.forall_mem_cons.mpr ⟨s_bipush (by decide +kernel) (by decide) rfl, ?_⟩
  refine List.forall_mem_cons.mpr ⟨s_iload_n (j := 1) (by decide +kernel) rfl rfl, ?_⟩
  refine List.forall_mem_cons.mpr ⟨s_iadd (by decide +kernel) rfl, ?_⟩
  refine List.forall_mem_cons.mpr ⟨s_iload_n (j := 2) (by decide +kernel) rfl rfl, ?_⟩
  refine List.forall_mem_cons.mpr ⟨s_callv (idx := 197) (k' := k_X9_becomes) (T := TX9) (N := 54) rfl q5_125 q5_122 q5_124 qs_40 q1_10 de_X9_becomes (by decide) (by decide +kernel) rfl, ?_⟩
  refine List.forall_mem_cons.mpr ⟨s_goto (off := 4) (by decide +kernel) (by decide), ?_⟩
  refine List.forall_mem_cons.mpr ⟨s_iconst (by decide +kernel) rfl, ?_⟩
  refine List.forall_mem_cons.mpr ⟨s_iret rfl (by decide +kernel), ?_⟩
  exact fun q hq => absurd hq List.not_mem_nil
def T_X9_light : List (Nat × zO) := [(0, o_iload 1 1), (1, o_if_ne 30 4), (4, o_iload 5 2), (5, o_i2l 6), (6, o_lconst 7 0), (7, o_aload 8 0), (8, o_getf 11 9 26), (11, o_i2l 12), (12, o_calls 3 k_X9_within 15), (15, o_if_eq 30 18), (18, o_aload 19 0), (19, o_getf 22 9 25), (22, o_istore 23 3), (23, o_aload 24 0), (24, o_iload 25 2), (25, o_putf 28 9 25), (28, o_iload 29 3), (29, o_iret), (30, o_iload 31 1), (31, o_const 32 1), (32, o_icmp_ne 63 35), (35, o_iload 36 2), (36, o_i2l 37), (37, o_aload 38 0), (38, o_getf 41 9 25), (41, o_i2l 42), (42, o_lconst 45 (1439)), (45, o_calls 3 k_X9_within 48), (48, o_if_eq 63 51), (51, o_aload 52 0), (52, o_getf 55 9 26), (55, o_istore 56 3), (56, o_aload 57 0), (57, o_iload 58 2), (58, o_putf 61 9 26), (61, o_iload 62 3), (62, o_iret), (63, o_const 64 (-1)), (64, o_iret)]
set_option maxRecDepth 20000 in
theorem t_X9_light : ∀ q ∈ T_X9_light, zS k_X9_light q.1 q.2 := by
  unfold T_X9_light
  refine List.forall_mem_cons.mpr ⟨s_iload_n (j := 1) (by decide +kernel) rfl rfl, ?_⟩
  refine List.forall_mem_cons.mpr ⟨s_if_ne (off := 29) (by decide +kernel) (by decide) rfl, ?_⟩
  refine List.forall_mem_cons.mpr ⟨s_iload_n (j := 2) (by decide +kernel) rfl rfl, ?_⟩
  refine List.forall_mem_cons.mpr ⟨s_i2l (by decide +kernel) rfl, ?_⟩
  refine List.forall_mem_cons.mpr ⟨s_lconst (z := 0) (by decide +kernel) (by decide) rfl, ?_⟩
  refine List.forall_mem_cons.mpr ⟨s_aload_n (j := 0) (by decide +kernel) rfl rfl, ?_⟩
  refine List.forall_mem_cons.mpr ⟨s_getf (idx := 120) (C := RX9) (T := TX9) (N := 54) rfl inX9 (by decide) q4_137 (by decide +kernel) rfl, ?_⟩
  refine List.forall_mem_cons.mpr ⟨s_i2l (by decide +kernel) rfl, ?_⟩
  refine List.forall_mem_cons.mpr ⟨s_calls (idx := 5) (k' := k_X9_within) q5_50 q5_48 q5_49 q1_10 de_X9_within (by decide) (by decide +kernel) rfl, ?_⟩
  refine List.forall_mem_cons.mpr ⟨s_if_eq (off := 15) (by decide +kernel) (by decide) rfl, ?_⟩
  refine List.forall_mem_cons.mpr ⟨s_aload_n (j := 0) (by decide +kernel) rfl rfl, ?_⟩
  refine List.forall_mem_cons.mpr ⟨s_getf (idx := 212) (C := RX9) (T := TX9) (N := 54) rfl inX9 (by decide) q4_136 (by decide +kernel) rfl, ?_⟩
  refine List.forall_mem_cons.mpr ⟨s_istore_n (j := 3) (by decide +kernel) rfl (by decide) rfl, ?_⟩
  refine List.forall_mem_cons.mpr ⟨s_aload_n (j := 0) (by decide +kernel) rfl rfl, ?_⟩
  refine List.forall_mem_cons.mpr ⟨s_iload_n (j := 2) (by decide +kernel) rfl rfl, ?_⟩
  refine List.forall_mem_cons.mpr ⟨s_putf (idx := 212) (C := RX9) (T := TX9) (N := 54) rfl inX9 tyX9_ok nmX9 (by decide) rfl (tyX9_ok 25 (by decide)) (Or.inl ⟨rfl, kdI 9 25 (by decide)⟩) q4_136 (by decide +kernel) rfl, ?_⟩
  refine List.forall_mem_cons.mpr ⟨s_iload_n (j := 3) (by decide +kernel) rfl rfl, ?_⟩
  refine List.forall_mem_cons.mpr ⟨s_iret rfl (by decide +kernel), ?_⟩
  refine List.forall_mem_cons.mpr ⟨s_iload_n (j := 1) (by decide +kernel) rfl rfl, ?_⟩
  refine List.forall_mem_cons.mpr ⟨s_iconst (by decide +kernel) rfl, ?_⟩
  refine List.forall_mem_cons.mpr ⟨s_icmp_ne (off := 31) (by decide +kernel) (by decide) rfl, ?_⟩
  refine List.forall_mem_cons.mpr ⟨s_iload_n (j := 2) (by decide +kernel) rfl rfl, ?_⟩
  refine List.forall_mem_cons.mpr ⟨s_i2l (by decide +kernel) rfl, ?_⟩
  refine List.forall_mem_cons.mpr ⟨s_aload_n (j := 0) (by decide +kernel) rfl rfl, ?_⟩
  refine List.forall_mem_cons.mpr ⟨s_getf (idx := 212) (C := RX9) (T := TX9) (N := 54) rfl inX9 (by decide) q4_136 (by decide +kernel) rfl, ?_⟩
  refine List.forall_mem_cons.mpr ⟨s_i2l (by decide +kernel) rfl, ?_⟩
  refine List.forall_mem_cons.mpr ⟨s_ldc2 (idx := 3) (y := (1439)) (by decide +kernel) q5_90 rfl, ?_⟩
  refine List.forall_mem_cons.mpr ⟨s_calls (idx := 5) (k' := k_X9_within) q5_50 q5_48 q5_49 q1_10 de_X9_within (by decide) (by decide +kernel) rfl, ?_⟩
  refine List.forall_mem_cons.mpr ⟨s_if_eq (off := 15) (by decide +kernel) (by decide) rfl, ?_⟩
  refine List.forall_mem_cons.mpr ⟨s_aload_n (j := 0) (by decide +kernel) rfl rfl, ?_⟩
  refine List.forall_mem_cons.mpr ⟨s_getf (idx := 120) (C := RX9) (T := TX9) (N := 54) rfl inX9 (by decide) q4_137 (by decide +kernel) rfl, ?_⟩
  refine List.forall_mem_cons.mpr ⟨s_istore_n (j := 3) (by decide +kernel) rfl (by decide) rfl, ?_⟩
  refine List.forall_mem_cons.mpr ⟨s_aload_n (j := 0) (by decide +kernel) rfl rfl, ?_⟩
  refine List.forall_mem_cons.mpr ⟨s_iload_n (j := 2) (by decide +kernel) rfl rfl, ?_⟩
  refine List.forall_mem_cons.mpr ⟨s_putf (idx := 120) (C := RX9) (T := TX9) (N := 54) rfl inX9 tyX9_ok nmX9 (by decide) rfl (tyX9_ok 26 (by decide)) (Or.inl ⟨rfl, kdI 9 26 (by decide)⟩) q4_137 (by decide +kernel) rfl, ?_⟩
  refine List.forall_mem_cons.mpr ⟨s_iload_n (j := 3) (by decide +kernel) rfl rfl, ?_⟩
  refine List.forall_mem_cons.mpr ⟨s_iret rfl (by decide +kernel), ?_⟩
  refine List.forall_mem_cons.mpr ⟨s_iconst (by decide +kernel) rfl, ?_⟩
  refine List.forall_mem_cons.mpr ⟨s_iret rfl (by decide +kernel), ?_⟩
  exact fun q hq => absurd hq List.not_mem_nil
def T_X9_takesOf : List (Nat × zO) := [(0, o_aload 1 0), (1, o_getf 4 9 24), (4, o_iload 5 1), (5, o_iald 6), (6, o_aload 7 0), (7, o_getf 10 9 0), (10, o_const 12 84), (12, o_iload 13 2), (13, o_iadd 14), (14, o_iald 15), (15, o_const 17 10), (17, o_iload 18 3), (18, o_imul 19), (19, o_iadd 20), (20, o_imul 21), (21, o_const 23 99), (23, o_iadd 24), (24, o_const 26 100), (26, o_idiv 27), (27, o_iret)]
set_option maxRecDepth 20000 in
theorem t_X9_takesOf : ∀ q ∈ T_X9_takesOf, zS k_X9_takesOf q.1 q.2 := by
  unfold T_X9_takesOf
  refine List.forall_mem_cons.mpr ⟨s_aload_n (j := 0) (by decide +kernel) rfl rfl, ?_⟩
  refine List.forall_mem_cons.mpr ⟨s_getf (idx := 61) (C := RX9) (T := TX9) (N := 54) rfl inX9 (by decide) q4_135 (by decide +kernel) rfl, ?_⟩
  refine List.forall_mem_cons.mpr ⟨s_iload_n (j := 1) (by decide +kernel) rfl rfl, ?_⟩
  refine List.forall_mem_cons.mpr ⟨s_iald (by decide +kernel) rfl, ?_⟩
  refine List.forall_mem_cons.mpr ⟨s_aload_n (j := 0) (by decide +kernel) rfl rfl, ?_⟩
  refine List.forall_mem_cons.mpr ⟨s_getf (idx := 15) (C := RX9) (T := TX9) (N := 54) rfl inX9 (by decide) q4_111 (by decide +kernel) rfl, ?_⟩
  refine List.forall_mem_cons.mpr ⟨s_bipush (by decide +kernel) (by decide) rfl, ?_⟩
  refine List.forall_mem_cons.mpr ⟨s_iload_n (j := 2) (by decide +kernel) rfl rfl, ?_⟩
  refine List.forall_mem_cons.mpr ⟨s_iadd (by decide +kernel) rfl, ?_⟩
  refine List.forall_mem_cons.mpr ⟨s_iald (by decide +kernel) rfl, ?_⟩
  refine List.forall_mem_cons.mpr ⟨s_bipush (by decide +kernel) (by decide) rfl, ?_⟩
  refine List.forall_mem_cons.mpr ⟨s_iload_n (j := 3) (by decide +kernel) rfl rfl, ?_⟩
  refine List.forall_mem_cons.mpr ⟨s_imul (by decide +kernel) rfl, ?_⟩
  refine List.forall_mem_cons.mpr ⟨s_iadd (by decide +kernel) rfl, ?_⟩
  refine List.forall_mem_cons.mpr ⟨s_imul (by decide +kernel) rfl, ?_⟩
  refine List.forall_mem_cons.mpr ⟨s_bipush (by decide +kernel) (by decide) rfl, ?_⟩
  refine List.forall_mem_cons.mpr ⟨s_iadd (by decide +kernel) rfl, ?_⟩
  refine List.forall_mem_cons.mpr ⟨s_bipush (by decide +kernel) (by decide) rfl, ?_⟩
  refine List.forall_mem_cons.mpr ⟨s_idiv (by decide +kernel) rfl, ?_⟩
  refine List.forall_mem_cons.mpr ⟨s_iret rfl (by decide +kernel), ?_⟩
  exact fun q hq => absurd hq List.not_mem_nil
def T_X9_takes : List (Nat × zO) := [(0, o_aload 1 0), (1, o_iload 2 1), (2, o_callv 1 9 k_X9_isWay 5), (5, o_if_eq 37 8), (8, o_iload 9 2), (9, o_calls 1 k_X9_isSort 12), (12, o_if_eq 37 15), (15, o_iload 16 3), (16, o_i2l 17), (17, o_lconst 18 0), (18, o_lconst 21 (3)), (21, o_calls 3 k_X9_within 24), (24, o_if_eq 37 27), (27, o_aload 28 0), (28, o_iload 29 1), (29, o_iload 30 2), (30, o_iload 31 3), (31, o_callv 3 9 k_X9_takesOf 34), (34, o_goto 38), (37, o_const 38 (-1)), (38, o_iret)]
set_option maxRecDepth 20000 in
theorem t_X9_takes : ∀ q ∈ T_X9_takes, zS k_X9_takes q.1 q.2 := by
  unfold T_X9_takes
  refine List.forall_mem_cons.mpr ⟨s_aload_n (j := 0) (by decide +kernel) rfl rfl, ?_⟩
  refine List.forall_mem_cons.mpr ⟨s_iload_n (j := 1) (by decide +kernel) rfl rfl, ?_⟩
  refine List.forall_mem_cons.mpr ⟨s_callv (idx := 200) (k' := k_X9_isWay) (T := TX9) (N := 54) rfl q5_133 q5_130 q5_132 qs_41 q1_10 de_X9_isWay (by decide) (by decide +kernel) rfl, ?_⟩
  refine List.forall_mem_cons.mpr ⟨s_if_eq (off := 32) (by decide +kernel) (by decide) rfl, ?_⟩
  refine List.forall_mem_cons.mpr ⟨s_iload_n (j := 2) (by decide +kernel) rfl rfl, ?_⟩
  refine List.forall_mem_cons.mpr ⟨s_calls (idx := 205) (k' := k_X9_isSort) q5_140 q5_138 q5_139 q1_10 de_X9_isSort (by decide) (by decide +kernel) rfl, ?_⟩
  refine List.forall_mem_cons.mpr ⟨s_if_eq (off := 25) (by decide +kernel) (by decide) rfl, ?_⟩
  refine List.forall_mem_cons.mpr ⟨s_iload_n (j := 3) (by decide +kernel) rfl rfl, ?_⟩
  refine List.forall_mem_cons.mpr ⟨s_i2l (by decide +kernel) rfl, ?_⟩
  refine List.forall_mem_cons.mpr ⟨s_lconst (z := 0) (by decide +kernel) (by decide) rfl, ?_⟩
  refine List.forall_mem_cons.mpr ⟨s_ldc2 (idx := 203) (y := (3)) (by decide +kernel) q5_141 rfl, ?_⟩
  refine List.forall_mem_cons.mpr ⟨s_calls (idx := 5) (k' := k_X9_within) q5_50 q5_48 q5_49 q1_10 de_X9_within (by decide) (by decide +kernel) rfl, ?_⟩
  refine List.forall_mem_cons.mpr ⟨s_if_eq (off := 13) (by decide +kernel) (by decide) rfl, ?_⟩
  refine List.forall_mem_cons.mpr ⟨s_aload_n (j := 0) (by decide +kernel) rfl rfl, ?_⟩
  refine List.forall_mem_cons.mpr ⟨s_iload_n (j := 1) (by decide +kernel) rfl rfl, ?_⟩
  refine List.forall_mem_cons.mpr ⟨s_iload_n (j := 2) (by decide +kernel) rfl rfl, ?_⟩
  refine List.forall_mem_cons.mpr ⟨s_iload_n (j := 3) (by decide +kernel) rfl rfl, ?_⟩
  refine List.forall_mem_cons.mpr ⟨s_callv (idx := 215) (k' := k_X9_takesOf) (T := TX9) (N := 54) rfl q5_155 q5_152 q5_154 qs_42 q1_10 de_X9_takesOf (by decide) (by decide +kernel) rfl, ?_⟩
  refine List.forall_mem_cons.mpr ⟨s_goto (off := 4) (by decide +kernel) (by decide), ?_⟩
  refine List.forall_mem_cons.mpr ⟨s_iconst (by decide +kernel) rfl, ?_⟩
  refine List.forall_mem_cons.mpr ⟨s_iret rfl (by decide +kernel), ?_⟩
  exact fun q hq => absurd hq List.not_mem_nil
def T_X9_layOut : List (Nat × zO) := [(0, o_aload 1 0), (1, o_iload 2 1), (2, o_const 4 10), (4, o_idiv 5), (5, o_putf 8 9 27), (8, o_const 9 0), (9, o_istore 10 3), (10, o_iload 11 3), (11, o_const 14 1440), (14, o_icmp_ge 92 17), (17, o_const 19 (-2000000000)), (19, o_istore 21 4), (21, o_const 22 0), (22, o_istore 24 5), (24, o_iload 26 5), (26, o_aload 27 0), (27, o_getf 30 9 16), (30, o_icmp_ge 78 33), (33, o_iload 34 2), (34, o_iload 36 5), (36, o_ishr 37), (37, o_const 38 1), (38, o_iand 39), (39, o_const 40 1), (40, o_icmp_ne 72 43), (43, o_aload 44 0), (44, o_iload 45 1), (45, o_const 47 10), (47, o_irem 48), (48, o_iload 50 5), (50, o_iload 51 3), (51, o_callv 3 9 k_X9_seaAt 54), (54, o_istore 56 6), (56, o_iload 58 6), (58, o_iload 60 4), (60, o_icmp_le 68 63), (63, o_iload 65 6), (65, o_goto 70), (68, o_iload 70 4), (70, o_istore 72 4), (72, o_iinc 75 5 1), (75, o_goto 24), (78, o_aload 79 0), (79, o_getf 82 9 28), (82, o_iload 83 3), (83, o_iload 85 4), (85, o_iast 86), (86, o_iinc 89 3 1), (89, o_goto 10), (92, o_const 93 0), (93, o_istore 94 3), (94, o_iload 95 3), (95, o_aload 96 0), (96, o_getf 99 9 20), (99, o_icmp_ge 159 102), (102, o_const 103 0), (103, o_istore 105 4), (105, o_iload 107 4), (107, o_const 110 1440), (110, o_icmp_ge 153 113), (113, o_aload 114 0), (114, o_getf 117 9 30), (117, o_const 120 1440), (120, o_iload 121 3), (121, o_imul 122), (122, o_iload 124 4), (124, o_iadd 125), (125, o_aload 126 0), (126, o_getf 129 9 28), (129, o_iload 131 4), (131, o_iald 132), (132, o_aload 133 0), (133, o_getf 136 9 0), (136, o_iload 137 3), (137, o_iald 138), (138, o_icmp_gt 145 141), (141, o_const 142 1), (142, o_goto 146), (145, o_const 146 0), (146, o_bast 147), (147, o_iinc 150 4 1), (150, o_goto 105), (153, o_iinc 156 3 1), (156, o_goto 94), (159, o_const 160 0), (160, o_istore 161 3), (161, o_iload 162 3), (162, o_aload 163 0), (163, o_getf 166 9 21), (166, o_icmp_ge 275 169), (169, o_const 172 1441), (172, o_iload 173 3), (173, o_imul 174), (174, o_istore 176 4), (176, o_aload 177 0), (177, o_getf 180 9 0), (180, o_const 182 12), (182, o_iload 183 3), (183, o_iadd 184), (184, o_iald 185), (185, o_iload 186 3), (186, o_aload 187 0), (187, o_getf 190 9 32), (190, o_icmp_ne 200 193), (193, o_aload 194 0), (194, o_getf 197 9 33), (197, o_goto 201), (200, o_const 201 0), (201, o_iadd 202), (202, o_istore 204 5), (204, o_aload 205 0), (205, o_getf 208 9 29), (208, o_iload 210 4), (210, o_const 211 0), (211, o_iast 212), (212, o_const 213 0), (213, o_istore 215 6), (215, o_iload 217 6), (217, o_const 220 1440), (220, o_icmp_ge 269 223), (223, o_aload 224 0), (224, o_getf 227 9 29), (227, o_iload 229 4), (229, o_iload 231 6), (231, o_iadd 232), (232, o_const 233 1), (233, o_iadd 234), (234, o_aload 235 0), (235, o_getf 238 9 29), (238, o_iload 240 4), (240, o_iload 242 6), (242, o_iadd 243), (243, o_iald 244), (244, o_aload 245 0), (245, o_getf 248 9 28), (248, o_iload 250 6), (250, o_iald 251), (251, o_iload 253 5), (253, o_icmp_le 260 256), (256, o_const 257 1), (257, o_goto 261), (260, o_const 261 0), (261, o_iadd 262), (262, o_iast 263), (263, o_iinc 266 6 1), (266, o_goto 215), (269, o_iinc 272 3 1), (272, o_goto 161), (275, o_vret)]
set_option maxRecDepth 20000 in
theorem t_X9_layOut : ∀ q ∈ T_X9_layOut, zS k_X9_layOut q.1 q.2 := by
  unfold T_X9_layOut
  refine List.forall_mem_cons.mpr ⟨s_aload_n (j := 0) (by decide +kernel) rfl rfl, ?_⟩
  refine List.forall_mem_cons.mpr ⟨s_iload_n (j := 1) (by decide +kernel) rfl rfl, ?_⟩
  refine List.forall_mem_cons.mpr ⟨s_bipush (by decide +kernel) (by decide) rfl, ?_⟩
  refine List.forall_mem_cons.mpr ⟨s_idiv (by decide +kernel) rfl, ?_⟩
  refine List.forall_mem_cons.mpr ⟨s_putf (idx := 218) (C := RX9) (T := TX9) (N := 54) rfl inX9 tyX9_ok nmX9 (by decide) rfl (tyX9_ok 27 (by decide)) (Or.inl ⟨rfl, kdI 9 27 (by decide)⟩) q4_138 (by decide +kernel) rfl, ?_⟩
  refine List.forall_mem_cons.mpr ⟨s_iconst (by decide +kernel) rfl, ?_⟩
  refine List.forall_mem_cons.mpr ⟨s_istore_n (j := 3) (by decide +kernel) rfl (by decide) rfl, ?_⟩
  refine List.forall_mem_cons.mpr ⟨s_iload_n (j := 3) (by decide +kernel) rfl rfl, ?_⟩
  refine List.forall_mem_cons.mpr ⟨s_sipush (by decide +kernel) (by decide) rfl, ?_⟩
  refine List.forall_mem_cons.mpr ⟨s_icmp_ge (off := 78) (by decide +kernel) (by decide) rfl, ?_⟩
  refine List.forall_mem_cons.mpr ⟨s_ldc (idx := 180) (v := (-2000000000)) (by decide +kernel) q5_99 (by decide) rfl, ?_⟩
  refine List.forall_mem_cons.mpr ⟨s_istore (by decide +kernel) (by decide) rfl, ?_⟩
  refine List.forall_mem_cons.mpr ⟨s_iconst (by decide +kernel) rfl, ?_⟩
  refine List.forall_mem_cons.mpr ⟨s_istore (by decide +kernel) (by decide) rfl, ?_⟩
  refine List.forall_mem_cons.mpr ⟨s_iload (by decide +kernel) rfl, ?_⟩
  refine List.forall_mem_cons.mpr ⟨s_aload_n (j := 0) (by decide +kernel) rfl rfl, ?_⟩
  refine List.forall_mem_cons.mpr ⟨s_getf (idx := 117) (C := RX9) (T := TX9) (N := 54) rfl inX9 (by decide) q4_127 (by decide +kernel) rfl, ?_⟩
  refine List.forall_mem_cons.mpr ⟨s_icmp_ge (off := 48) (by decide +kernel) (by decide) rfl, ?_⟩
  refine List.forall_mem_cons.mpr ⟨s_iload_n (j := 2) (by decide +kernel) rfl rfl, ?_⟩
  refine List.forall_mem_cons.mpr ⟨s_iload (by decide +kernel) rfl, ?_⟩
  refine List.forall_mem_cons.mpr ⟨s_ishr (by decide +kernel) rfl, ?_⟩
  refine List.forall_mem_cons.mpr ⟨s_iconst (by decide +kernel) rfl, ?_⟩
  refine List.forall_mem_cons.mpr ⟨s_iand (by decide +kernel) rfl, ?_⟩
  refine List.forall_mem_cons.mpr ⟨s_iconst (by decide +kernel) rfl, ?_⟩
  refine List.forall_mem_cons.mpr ⟨s_icmp_ne (off := 32) (by decide +kernel) (by decide) rfl, ?_⟩
  refine List.forall_mem_cons.mpr ⟨s_aload_n (j := 0) (by decide +kernel) rfl rfl, ?_⟩
  refine List.forall_mem_cons.mpr ⟨s_iload_n (j := 1) (by decide +kernel) rfl rfl, ?_⟩
  refine List.forall_mem_cons.mpr ⟨s_bipush (by decide +kernel) (by decide) rfl, ?_⟩
  refine List.forall_mem_cons.mpr ⟨s_irem (by decide +kernel) rfl, ?_⟩
  refine List.forall_mem_cons.mpr ⟨s_iload (by decide +kernel) rfl, ?_⟩
  refine List.forall_mem_cons.mpr ⟨s_iload_n (j := 3) (by decide +kernel) rfl rfl, ?_⟩
  refine List.forall_mem_cons.mpr ⟨s_callv (idx := 177) (k' := k_X9_seaAt) (T := TX9) (N := 54) rfl q5_94 q5_91 q5_93 qs_36 q1_10 de_X9_seaAt (by decide) (by decide +kernel) rfl, ?_⟩
  refine List.forall_mem_cons.mpr ⟨s_istore (by decide +kernel) (by decide) rfl, ?_⟩
  refine List.forall_mem_cons.mpr ⟨s_iload (by decide +kernel) rfl, ?_⟩
  refine List.forall_mem_cons.mpr ⟨s_iload (by decide +kernel) rfl, ?_⟩
  refine List.forall_mem_cons.mpr ⟨s_icmp_le (off := 8) (by decide +kernel) (by decide) rfl, ?_⟩
  refine List.forall_mem_cons.mpr ⟨s_iload (by decide +kernel) rfl, ?_⟩
  refine List.forall_mem_cons.mpr ⟨s_goto (off := 5) (by decide +kernel) (by decide), ?_⟩
  refine List.forall_mem_cons.mpr ⟨s_iload (by decide +kernel) rfl, ?_⟩
  refine List.forall_mem_cons.mpr ⟨s_istore (by decide +kernel) (by decide) rfl, ?_⟩
  refine List.forall_mem_cons.mpr ⟨s_iinc (by decide +kernel) (by decide) rfl, ?_⟩
  refine List.forall_mem_cons.mpr ⟨s_goto (off := (-51)) (by decide +kernel) (by decide), ?_⟩
  refine List.forall_mem_cons.mpr ⟨s_aload_n (j := 0) (by decide +kernel) rfl rfl, ?_⟩
  refine List.forall_mem_cons.mpr ⟨s_getf (idx := 64) (C := RX9) (T := TX9) (N := 54) rfl inX9 (by decide) q4_139 (by decide +kernel) rfl, ?_⟩
  refine List.forall_mem_cons.mpr ⟨s_iload_n (j := 3) (by decide +kernel) rfl rfl, ?_⟩
  refine List.forall_mem_cons.mpr ⟨s_iload (by decide +kernel) rfl, ?_⟩
  refine List.forall_mem_cons.mpr ⟨s_iast (by decide +kernel) rfl, ?_⟩
  refine List.forall_mem_cons.mpr ⟨s_iinc (by decide +kernel) (by decide) rfl, ?_⟩
  refine List.forall_mem_cons.mpr ⟨s_goto (off := (-79)) (by decide +kernel) (by decide), ?_⟩
  refine List.forall_mem_cons.mpr ⟨s_iconst (by decide +kernel) rfl, ?_⟩
  refine List.forall_mem_cons.mpr ⟨s_istore_n (j := 3) (by decide +kernel) rfl (by decide) rfl, ?_⟩
  refine List.forall_mem_cons.mpr ⟨s_iload_n (j := 3) (by decide +kernel) rfl rfl, ?_⟩
  refine List.forall_mem_cons.mpr ⟨s_aload_n (j := 0) (by decide +kernel) rfl rfl, ?_⟩
  refine List.forall_mem_cons.mpr ⟨s_getf (idx := 181) (C := RX9) (T := TX9) (N := 54) rfl inX9 (by decide) q4_131 (by decide +kernel) rfl, ?_⟩
  refine List.forall_mem_cons.mpr ⟨s_icmp_ge (off := 60) (by decide +kernel) (by decide) rfl, ?_⟩
  refine List.forall_mem_cons.mpr ⟨s_iconst (by decide +kernel) rfl, ?_⟩
  refine List.forall_mem_cons.mpr ⟨s_istore (by decide +kernel) (by decide) rfl, ?_⟩
  refine List.forall_mem_cons.mpr ⟨s_iload (by decide +kernel) rfl, ?_⟩
  refine List.forall_mem_cons.mpr ⟨s_sipush (by decide +kernel) (by decide) rfl, ?_⟩
  refine List.forall_mem_cons.mpr ⟨s_icmp_ge (off := 43) (by decide +kernel) (by decide) rfl, ?_⟩
  refine List.forall_mem_cons.mpr ⟨s_aload_n (j := 0) (by decide +kernel) rfl rfl, ?_⟩
  refine List.forall_mem_cons.mpr ⟨s_getf (idx := 71) (C := RX9) (T := TX9) (N := 54) rfl inX9 (by decide) q4_141 (by decide +kernel) rfl, ?_⟩
  refine List.forall_mem_cons.mpr ⟨s_sipush (by decide +kernel) (by decide) rfl, ?_⟩
  refine List.forall_mem_cons.mpr ⟨s_iload_n (j := 3) (by decide +kernel) rfl rfl, ?_⟩
  refine List.forall_mem_cons.mpr ⟨s_imul (by decide +kernel) rfl, ?_⟩
  refine List.forall_mem_cons.mpr ⟨s_iload (by decide +kernel) rfl, ?_⟩
  refine List.forall_mem_cons.mpr ⟨s_iadd (by decide +kernel) rfl, ?_⟩
  refine List.forall_mem_cons.mpr ⟨s_aload_n (j := 0) (by decide +kernel) rfl rfl, ?_⟩
  refine List.forall_mem_cons.mpr ⟨s_getf (idx := 64) (C := RX9) (T := TX9) (N := 54) rfl inX9 (by decide) q4_139 (by decide +kernel) rfl, ?_⟩
  refine List.forall_mem_cons.mpr ⟨s_iload (by decide +kernel) rfl, ?_⟩
  refine List.forall_mem_cons.mpr ⟨s_iald (by decide +kernel) rfl, ?_⟩
  refine List.forall_mem_cons.mpr ⟨s_aload_n (j := 0) (by decide +kernel) rfl rfl, ?_⟩
  refine List.forall_mem_cons.mpr ⟨s_getf (idx := 15) (C := RX9) (T := TX9) (N := 54) rfl inX9 (by decide) q4_111 (by decide +kernel) rfl, ?_⟩
  refine List.forall_mem_cons.mpr ⟨s_iload_n (j := 3) (by decide +kernel) rfl rfl, ?_⟩
  refine List.forall_mem_cons.mpr ⟨s_iald (by decide +kernel) rfl, ?_⟩
  refine List.forall_mem_cons.mpr ⟨s_icmp_gt (off := 7) (by decide +kernel) (by decide) rfl, ?_⟩
  refine List.forall_mem_cons.mpr ⟨s_iconst (by decide +kernel) rfl, ?_⟩
  refine List.forall_mem_cons.mpr ⟨s_goto (off := 4) (by decide +kernel) (by decide), ?_⟩
  refine List.forall_mem_cons.mpr ⟨s_iconst (by decide +kernel) rfl, ?_⟩
  refine List.forall_mem_cons.mpr ⟨s_bast (by decide +kernel) rfl, ?_⟩
  refine List.forall_mem_cons.mpr ⟨s_iinc (by decide +kernel) (by decide) rfl, ?_⟩
  refine List.forall_mem_cons.mpr ⟨s_goto (off := (-45)) (by decide +kernel) (by decide), ?_⟩
  refine List.forall_mem_cons.mpr ⟨s_iinc (by decide +kernel) (by decide) rfl, ?_⟩
  refine List.forall_mem_cons.mpr ⟨s_goto (off := (-62)) (by decide +kernel) (by decide), ?_⟩
  refine List.forall_mem_cons.mpr ⟨s_iconst (by decide +kernel) rfl, ?_⟩
  refine List.forall_mem_cons.mpr ⟨s_istore_n (j := 3) (by decide +kernel) rfl (by decide) rfl, ?_⟩
  refine List.forall_mem_cons.mpr ⟨s_iload_n (j := 3) (by decide +kernel) rfl rfl, ?_⟩
  refine List.forall_mem_cons.mpr ⟨s_aload_n (j := 0) (by decide +kernel) rfl rfl, ?_⟩
  refine List.forall_mem_cons.mpr ⟨s_getf (idx := 184) (C := RX9) (T := TX9) (N := 54) rfl inX9 (by decide) q4_132 (by decide +kernel) rfl, ?_⟩
  refine List.forall_mem_cons.mpr ⟨s_icmp_ge (off := 109) (by decide +kernel) (by decide) rfl, ?_⟩
  refine List.forall_mem_cons.mpr ⟨s_sipush (by decide +kernel) (by decide) rfl, ?_⟩
  refine List.forall_mem_cons.mpr ⟨s_iload_n (j := 3) (by decide +kernel) rfl rfl, ?_⟩
  refine List.forall_mem_cons.mpr ⟨s_imul (by decide +kernel) rfl, ?_⟩
  refine List.forall_mem_cons.mpr ⟨s_istore (by decide +kernel) (by decide) rfl, ?_⟩
  refine List.forall_mem_cons.mpr ⟨s_aload_n (j := 0) (by decide +kernel) rfl rfl, ?_⟩
  refine List.forall_mem_cons.mpr ⟨s_getf (idx := 15) (C := RX9) (T := TX9) (N := 54) rfl inX9 (by decide) q4_111 (by decide +kernel) rfl, ?_⟩
  refine List.forall_mem_cons.mpr ⟨s_bipush (by decide +kernel) (by decide) rfl, ?_⟩
  refine List.forall_mem_cons.mpr ⟨s_iload_n (j := 3) (by decide +kernel) rfl rfl, ?_⟩
  refine List.forall_mem_cons.mpr ⟨s_iadd (by decide +kernel) rfl, ?_⟩
  refine List.forall_mem_cons.mpr ⟨s_iald (by decide +kernel) rfl, ?_⟩
  refine List.forall_mem_cons.mpr ⟨s_iload_n (j := 3) (by decide +kernel) rfl rfl, ?_⟩
  refine List.forall_mem_cons.mpr ⟨s_aload_n (j := 0) (by decide +kernel) rfl rfl, ?_⟩
  refine List.forall_mem_cons.mpr ⟨s_getf (idx := 79) (C := RX9) (T := TX9) (N := 54) rfl inX9 (by decide) q4_143 (by decide +kernel) rfl, ?_⟩
  refine List.forall_mem_cons.mpr ⟨s_icmp_ne (off := 10) (by decide +kernel) (by decide) rfl, ?_⟩
  refine List.forall_mem_cons.mpr ⟨s_aload_n (j := 0) (by decide +kernel) rfl rfl, ?_⟩
  refine List.forall_mem_cons.mpr ⟨s_getf (idx := 221) (C := RX9) (T := TX9) (N := 54) rfl inX9 (by decide) q4_144 (by decide +kernel) rfl, ?_⟩
  refine List.forall_mem_cons.mpr ⟨s_goto (off := 4) (by decide +kernel) (by decide), ?_⟩
  refine List.forall_mem_cons.mpr ⟨s_iconst (by decide +kernel) rfl, ?_⟩
  refine List.forall_mem_cons.mpr ⟨s_iadd (by decide +kernel) rfl, ?_⟩
  refine List.forall_mem_cons.mpr ⟨s_istore (by decide +kernel) (by decide) rfl, ?_⟩
  refine List.forall_mem_cons.mpr ⟨s_aload_n (j := 0) (by decide +kernel) rfl rfl, ?_⟩
  refine List.forall_mem_cons.mpr ⟨s_getf (idx := 68) (C := RX9) (T := TX9) (N := 54) rfl inX9 (by decide) q4_140 (by decide +kernel) rfl, ?_⟩
  refine List.forall_mem_cons.mpr ⟨s_iload (by decide +kernel) rfl, ?_⟩
  refine List.forall_mem_cons.mpr ⟨s_iconst (by decide +kernel) rfl, ?_⟩
  refine List.forall_mem_cons.mpr ⟨s_iast (by decide +kernel) rfl, ?_⟩
  refine List.forall_mem_cons.mpr ⟨s_iconst (by decide +kernel) rfl, ?_⟩
  refine List.forall_mem_cons.mpr ⟨s_istore (by decide +kernel) (by decide) rfl, ?_⟩
  refine List.forall_mem_cons.mpr ⟨s_iload (by decide +kernel) rfl, ?_⟩
  refine List.forall_mem_cons.mpr ⟨s_sipush (by decide +kernel) (by decide) rfl, ?_⟩
  refine List.forall_mem_cons.mpr ⟨s_icmp_ge (off := 49) (by decide +kernel) (by decide) rfl, ?_⟩
  refine List.forall_mem_cons.mpr ⟨s_aload_n (j := 0) (by decide +kernel) rfl rfl, ?_⟩
  refine List.forall_mem_cons.mpr ⟨s_getf (idx := 68) (C := RX9) (T := TX9) (N := 54) rfl inX9 (by decide) q4_140 (by decide +kernel) rfl, ?_⟩
  refine List.forall_mem_cons.mpr ⟨s_iload (by decide +kernel) rfl, ?_⟩
  refine List.forall_mem_cons.mpr ⟨s_iload (by decide +kernel) rfl, ?_⟩
  refine List.forall_mem_cons.mpr ⟨s_iadd (by decide +kernel) rfl, ?_⟩
  refine List.forall_mem_cons.mpr ⟨s_iconst (by decide +kernel) rfl, ?_⟩
  refine List.forall_mem_cons.mpr ⟨s_iadd (by decide +kernel) rfl, ?_⟩
  refine List.forall_mem_cons.mpr ⟨s_aload_n (j := 0) (by decide +kernel) rfl rfl, ?_⟩
  refine List.forall_mem_cons.mpr ⟨s_getf (idx := 68) (C := RX9) (T := TX9) (N := 54) rfl inX9 (by decide) q4_140 (by decide +kernel) rfl, ?_⟩
  refine List.forall_mem_cons.mpr ⟨s_iload (by decide +kernel) rfl, ?_⟩
  refine List.forall_mem_cons.mpr ⟨s_iload (by decide +kernel) rfl, ?_⟩
  refine List.forall_mem_cons.mpr ⟨s_iadd (by decide +kernel) rfl, ?_⟩
  refine List.forall_mem_cons.mpr ⟨s_iald (by decide +kernel) rfl, ?_⟩
  refine List.forall_mem_cons.mpr ⟨s_aload_n (j := 0) (by decide +kernel) rfl rfl, ?_⟩
  refine List.forall_mem_cons.mpr ⟨s_getf (idx := 64) (C := RX9) (T := TX9) (N := 54) rfl inX9 (by decide) q4_139 (by decide +kernel) rfl, ?_⟩
  refine List.forall_mem_cons.mpr ⟨s_iload (by decide +kernel) rfl, ?_⟩
  refine List.forall_mem_cons.mpr ⟨s_iald (by decide +kernel) rfl, ?_⟩
  refine List.forall_mem_cons.mpr ⟨s_iload (by decide +kernel) rfl, ?_⟩
  refine List.forall_mem_cons.mpr ⟨s_icmp_le (off := 7) (by decide +kernel) (by decide) rfl, ?_⟩
  refine List.forall_mem_cons.mpr ⟨s_iconst (by decide +kernel) rfl, ?_⟩
  refine List.forall_mem_cons.mpr ⟨s_goto (off := 4) (by decide +kernel) (by decide), ?_⟩
  refine List.forall_mem_cons.mpr ⟨s_iconst (by decide +kernel) rfl, ?_⟩
  refine List.forall_mem_cons.mpr ⟨s_iadd (by decide +kernel) rfl, ?_⟩
  refine List.forall_mem_cons.mpr ⟨s_iast (by decide +kernel) rfl, ?_⟩
  refine List.forall_mem_cons.mpr ⟨s_iinc (by decide +kernel) (by decide) rfl, ?_⟩
  refine List.forall_mem_cons.mpr ⟨s_goto (off := (-51)) (by decide +kernel) (by decide), ?_⟩
  refine List.forall_mem_cons.mpr ⟨s_iinc (by decide +kernel) (by decide) rfl, ?_⟩
  refine List.forall_mem_cons.mpr ⟨s_goto (off := (-111)) (by decide +kernel) (by decide), ?_⟩
  refine List.forall_mem_cons.mpr ⟨s_vret rfl (by decide +kernel), ?_⟩
  exact fun q hq => absurd hq List.not_mem_nil
def T_X9_goes : List (Nat × zO) := [(0, o_iload 1 2), (1, o_aload 2 0), (2, o_iload 3 1), (3, o_aload 4 0), (4, o_getf 7 9 27), (7, o_iload 8 3), (8, o_callv 3 9 k_X9_takesOf 11), (11, o_iadd 12), (12, o_istore 14 4), (14, o_iload 15 1), (15, o_aload 16 0), (16, o_getf 19 9 31), (19, o_icmp_eq 48 22), (22, o_iload 23 2), (23, o_aload 24 0), (24, o_getf 27 9 0), (27, o_const 29 36), (29, o_iload 30 1), (30, o_iadd 31), (31, o_iald 32), (32, o_icmp_lt 52 35), (35, o_iload 36 2), (36, o_aload 37 0), (37, o_getf 40 9 0), (40, o_const 42 60), (42, o_iload 43 1), (43, o_iadd 44), (44, o_iald 45), (45, o_icmp_gt 52 48), (48, o_const 49 1), (49, o_goto 53), (52, o_const 53 0), (53, o_istore 55 5), (55, o_const 58 1441), (58, o_iload 59 1), (59, o_imul 60), (60, o_istore 62 6), (62, o_iload 64 5), (64, o_if_eq 103 67), (67, o_iload 69 4), (69, o_const 72 1439), (72, o_icmp_gt 103 75), (75, o_aload 76 0), (76, o_getf 79 9 29), (79, o_iload 81 6), (81, o_iload 83 4), (83, o_iadd 84), (84, o_const 85 1), (85, o_iadd 86), (86, o_iald 87), (87, o_aload 88 0), (88, o_getf 91 9 29), (91, o_iload 93 6), (93, o_iload 94 2), (94, o_iadd 95), (95, o_iald 96), (96, o_icmp_ne 103 99), (99, o_const 100 1), (100, o_goto 104), (103, o_const 104 0), (104, o_zret)]
set_option maxRecDepth 20000 in
theorem t_X9_goes : ∀ q ∈ T_X9_goes, zS k_X9_goes q.1 q.2 := by
  unfold T_X9_goes
  refine List.forall_mem_cons.mpr ⟨s_iload_n (j := 2) (by decide +kernel) rfl rfl, ?_⟩
  refine List.forall_mem_cons.mpr ⟨s_aload_n (j := 0) (by decide +kernel) rfl rfl, ?_⟩
  refine List.forall_mem_cons.mpr ⟨s_iload_n (j := 1) (by decide +kernel) rfl rfl, ?_⟩
  refine List.forall_mem_cons.mpr ⟨s_aload_n (j := 0) (by decide +kernel) rfl rfl, ?_⟩
  refine List.forall_mem_cons.mpr ⟨s_getf (idx := 218) (C := RX9) (T := TX9) (N := 54) rfl inX9 (by decide) q4_138 (by decide +kernel) rfl, ?_⟩
  refine List.forall_mem_cons.mpr ⟨s_iload_n (j := 3) (by decide +kernel) rfl rfl, ?_⟩
  refine List.forall_mem_cons.mpr ⟨s_callv (idx := 215) (k' := k_X9_takesOf) (T := TX9) (N := 54) rfl q5_155 q5_152 q5_154 qs_42 q1_10 de_X9_takesOf (by decide) (by decide +kernel) rfl, ?_⟩
  refine List.forall_mem_cons.mpr ⟨s_iadd (by decide +kernel) rfl, ?_⟩
  refine List.forall_mem_cons.mpr ⟨s_istore (by decide +kernel) (by decide) rfl, ?_⟩
  refine List.forall_mem_cons.mpr ⟨s_iload_n (j := 1) (by decide +kernel) rfl rfl, ?_⟩
  refine List.forall_mem_cons.mpr ⟨s_aload_n (j := 0) (by decide +kernel) rfl rfl, ?_⟩
  refine List.forall_mem_cons.mpr ⟨s_getf (idx := 75) (C := RX9) (T := TX9) (N := 54) rfl inX9 (by decide) q4_142 (by decide +kernel) rfl, ?_⟩
  refine List.forall_mem_cons.mpr ⟨s_icmp_eq (off := 29) (by decide +kernel) (by decide) rfl, ?_⟩
  refine List.forall_mem_cons.mpr ⟨s_iload_n (j := 2) (by decide +kernel) rfl rfl, ?_⟩
  refine List.forall_mem_cons.mpr ⟨s_aload_n (j := 0) (by decide +kernel) rfl rfl, ?_⟩
  refine List.forall_mem_cons.mpr ⟨s_getf (idx := 15) (C := RX9) (T := TX9) (N := 54) rfl inX9 (by decide) q4_111 (by decide +kernel) rfl, ?_⟩
  refine List.forall_mem_cons.mpr ⟨s_bipush (by decide +kernel) (by decide) rfl, ?_⟩
  refine List.forall_mem_cons.mpr ⟨s_iload_n (j := 1) (by decide +kernel) rfl rfl, ?_⟩
  refine List.forall_mem_cons.mpr ⟨s_iadd (by decide +kernel) rfl, ?_⟩
  refine List.forall_mem_cons.mpr ⟨s_iald (by decide +kernel) rfl, ?_⟩
  refine List.forall_mem_cons.mpr ⟨s_icmp_lt (off := 20) (by decide +kernel) (by decide) rfl, ?_⟩
  refine List.forall_mem_cons.mpr ⟨s_iload_n (j := 2) (by decide +kernel) rfl rfl, ?_⟩
  refine List.forall_mem_cons.mpr ⟨s_aload_n (j := 0) (by decide +kernel) rfl rfl, ?_⟩
  refine List.forall_mem_cons.mpr ⟨s_getf (idx := 15) (C := RX9) (T := TX9) (N := 54) rfl inX9 (by decide) q4_111 (by decide +kernel) rfl, ?_⟩
  refine List.forall_mem_cons.mpr ⟨s_bipush (by decide +kernel) (by decide) rfl, ?_⟩
  refine List.forall_mem_cons.mpr ⟨s_iload_n (j := 1) (by decide +kernel) rfl rfl, ?_⟩
  refine List.forall_mem_cons.mpr ⟨s_iadd (by decide +kernel) rfl, ?_⟩
  refine List.forall_mem_cons.mpr ⟨s_iald (by decide +kernel) rfl, ?_⟩
  refine List.forall_mem_cons.mpr ⟨s_icmp_gt (off := 7) (by decide +kernel) (by decide) rfl, ?_⟩
  refine List.forall_mem_cons.mpr ⟨s_iconst (by decide +kernel) rfl, ?_⟩
  refine List.forall_mem_cons.mpr ⟨s_goto (off := 4) (by decide +kernel) (by decide), ?_⟩
  refine List.forall_mem_cons.mpr ⟨s_iconst (by decide +kernel) rfl, ?_⟩
  refine List.forall_mem_cons.mpr ⟨s_istore (by decide +kernel) (by decide) rfl, ?_⟩
  refine List.forall_mem_cons.mpr ⟨s_sipush (by decide +kernel) (by decide) rfl, ?_⟩
  refine List.forall_mem_cons.mpr ⟨s_iload_n (j := 1) (by decide +kernel) rfl rfl, ?_⟩
  refine List.forall_mem_cons.mpr ⟨s_imul (by decide +kernel) rfl, ?_⟩
  refine List.forall_mem_cons.mpr ⟨s_istore (by decide +kernel) (by decide) rfl, ?_⟩
  refine List.forall_mem_cons.mpr ⟨s_iload (by decide +kernel) rfl, ?_⟩
  refine List.forall_mem_cons.mpr ⟨s_if_eq (off := 39) (by decide +kernel) (by decide) rfl, ?_⟩
  refine List.forall_mem_cons.mpr ⟨s_iload (by decide +kernel) rfl, ?_⟩
  refine List.forall_mem_cons.mpr ⟨s_sipush (by decide +kernel) (by decide) rfl, ?_⟩
  refine List.forall_mem_cons.mpr ⟨s_icmp_gt (off := 31) (by decide +kernel) (by decide) rfl, ?_⟩
  refine List.forall_mem_cons.mpr ⟨s_aload_n (j := 0) (by decide +kernel) rfl rfl, ?_⟩
  refine List.forall_mem_cons.mpr ⟨s_getf (idx := 68) (C := RX9) (T := TX9) (N := 54) rfl inX9 (by decide) q4_140 (by decide +kernel) rfl, ?_⟩
  refine List.forall_mem_cons.mpr ⟨s_iload (by decide +kernel) rfl, ?_⟩
  refine List.forall_mem_cons.mpr ⟨s_iload (by decide +kernel) rfl, ?_⟩
  refine List.forall_mem_cons.mpr ⟨s_iadd (by decide +kernel) rfl, ?_⟩
  refine List.forall_mem_cons.mpr ⟨s_iconst (by decide +kernel) rfl, ?_⟩
  refine List.forall_mem_cons.mpr ⟨s_iadd (by decide +kernel) rfl, ?_⟩
  refine List.forall_mem_cons.mpr ⟨s_iald (by decide +kernel) rfl, ?_⟩
  refine List.forall_mem_cons.mpr ⟨s_aload_n (j := 0) (by decide +kernel) rfl rfl, ?_⟩
  refine List.forall_mem_cons.mpr ⟨s_getf (idx := 68) (C := RX9) (T := TX9) (N := 54) rfl inX9 (by decide) q4_140 (by decide +kernel) rfl, ?_⟩
  refine List.forall_mem_cons.mpr ⟨s_iload (by decide +kernel) rfl, ?_⟩
  refine List.forall_mem_cons.mpr ⟨s_iload_n (j := 2) (by decide +kernel) rfl rfl, ?_⟩
  refine List.forall_mem_cons.mpr ⟨s_iadd (by decide +kernel) rfl, ?_⟩
  refine List.forall_mem_cons.mpr ⟨s_iald (by decide +kernel) rfl, ?_⟩
  refine List.forall_mem_cons.mpr ⟨s_icmp_ne (off := 7) (by decide +kernel) (by decide) rfl, ?_⟩
  refine List.forall_mem_cons.mpr ⟨s_iconst (by decide +kernel) rfl, ?_⟩
  refine List.forall_mem_cons.mpr ⟨s_goto (off := 4) (by decide +kernel) (by decide), ?_⟩
  refine List.forall_mem_cons.mpr ⟨s_iconst (by decide +kernel) rfl, ?_⟩
  refine List.forall_mem_cons.mpr ⟨s_zret rfl (by decide +kernel), ?_⟩
  exact fun q hq => absurd hq List.not_mem_nil
def T_X9_waits : List (Nat × zO) := [(0, o_iload 1 2), (1, o_const 4 1439), (4, o_icmp_ge 51 7), (7, o_iload 8 1), (8, o_aload 9 0), (9, o_getf 12 9 34), (12, o_icmp_eq 51 15), (15, o_aload 16 0), (16, o_getf 19 9 30), (19, o_const 22 1440), (22, o_iload 23 1), (23, o_imul 24), (24, o_iload 25 2), (25, o_iadd 26), (26, o_bald 27), (27, o_if_eq 51 30), (30, o_aload 31 0), (31, o_getf 34 9 30), (34, o_const 37 1440), (37, o_iload 38 1), (38, o_imul 39), (39, o_iload 40 2), (40, o_iadd 41), (41, o_const 42 1), (42, o_iadd 43), (43, o_bald 44), (44, o_if_eq 51 47), (47, o_const 48 1), (48, o_goto 52), (51, o_const 52 0), (52, o_zret)]
set_option maxRecDepth 20000 in
theorem t_X9_waits : ∀ q ∈ T_X9_waits, zS k_X9_waits q.1 q.2 := by
  unfold T_X9_waits
  refine List.forall_mem_cons.mpr ⟨s_iload_n (j := 2) (by decide +kernel) rfl rfl, ?_⟩
  refine List.forall_mem_cons.mpr ⟨s_sipush (by decide +kernel) (by decide) rfl, ?_⟩
  refine List.forall_mem_cons.mpr ⟨s_icmp_ge (off := 47) (by decide +kernel) (by decide) rfl, ?_⟩
  refine List.forall_mem_cons.mpr ⟨s_iload_n (j := 1) (by decide +kernel) rfl rfl, ?_⟩
  refine List.forall_mem_cons.mpr ⟨s_aload_n (j := 0) (by decide +kernel) rfl rfl, ?_⟩
  refine List.forall_mem_cons.mpr ⟨s_getf (idx := 82) (C := RX9) (T := TX9) (N := 54) rfl inX9 (by decide) q4_145 (by decide +kernel) rfl, ?_⟩
  refine List.forall_mem_cons.mpr ⟨s_icmp_eq (off := 39) (by decide +kernel) (by decide) rfl, ?_⟩
  refine List.forall_mem_cons.mpr ⟨s_aload_n (j := 0) (by decide +kernel) rfl rfl, ?_⟩
  refine List.forall_mem_cons.mpr ⟨s_getf (idx := 71) (C := RX9) (T := TX9) (N := 54) rfl inX9 (by decide) q4_141 (by decide +kernel) rfl, ?_⟩
  refine List.forall_mem_cons.mpr ⟨s_sipush (by decide +kernel) (by decide) rfl, ?_⟩
  refine List.forall_mem_cons.mpr ⟨s_iload_n (j := 1) (by decide +kernel) rfl rfl, ?_⟩
  refine List.forall_mem_cons.mpr ⟨s_imul (by decide +kernel) rfl, ?_⟩
  refine List.forall_mem_cons.mpr ⟨s_iload_n (j := 2) (by decide +kernel) rfl rfl, ?_⟩
  refine List.forall_mem_cons.mpr ⟨s_iadd (by decide +kernel) rfl, ?_⟩
  refine List.forall_mem_cons.mpr ⟨s_bald (by decide +kernel) rfl, ?_⟩
  refine List.forall_mem_cons.mpr ⟨s_if_eq (off := 24) (by decide +kernel) (by decide) rfl, ?_⟩
  refine List.forall_mem_cons.mpr ⟨s_aload_n (j := 0) (by decide +kernel) rfl rfl, ?_⟩
  refine List.forall_mem_cons.mpr ⟨s_getf (idx := 71) (C := RX9) (T := TX9) (N := 54) rfl inX9 (by decide) q4_141 (by decide +kernel) rfl, ?_⟩
  refine List.forall_mem_cons.mpr ⟨s_sipush (by decide +kernel) (by decide) rfl, ?_⟩
  refine List.forall_mem_cons.mpr ⟨s_iload_n (j := 1) (by decide +kernel) rfl rfl, ?_⟩
  refine List.forall_mem_cons.mpr ⟨s_imul (by decide +kernel) rfl, ?_⟩
  refine List.forall_mem_cons.mpr ⟨s_iload_n (j := 2) (by decide +kernel) rfl rfl, ?_⟩
  refine List.forall_mem_cons.mpr ⟨s_iadd (by decide +kernel) rfl, ?_⟩
  refine List.forall_mem_cons.mpr ⟨s_iconst (by decide +kernel) rfl, ?_⟩
  refine List.forall_mem_cons.mpr ⟨s_iadd (by decide +kernel) rfl, ?_⟩
  refine List.forall_mem_cons.mpr ⟨s_bald (by decide +kernel) rfl, ?_⟩
  refine List.forall_mem_cons.mpr ⟨s_if_eq (off := 7) (by decide +kernel) (by decide) rfl, ?_⟩
  refine List.forall_mem_cons.mpr ⟨s_iconst (by decide +kernel) rfl, ?_⟩
  refine List.forall_mem_cons.mpr ⟨s_goto (off := 4) (by decide +kernel) (by decide), ?_⟩
  refine List.forall_mem_cons.mpr ⟨s_iconst (by decide +kernel) rfl, ?_⟩
  refine List.forall_mem_cons.mpr ⟨s_zret rfl (by decide +kernel), ?_⟩
  exact fun q hq => absurd hq List.not_mem_nil
def T_X9_otherEnd : List (Nat × zO) := [(0, o_aload 1 0), (1, o_getf 4 9 22), (4, o_iload 5 1), (5, o_iald 6), (6, o_iload 7 2), (7, o_icmp_ne 19 10), (10, o_aload 11 0), (11, o_getf 14 9 23), (14, o_iload 15 1), (15, o_iald 16), (16, o_goto 39), (19, o_aload 20 0), (20, o_getf 23 9 23), (23, o_iload 24 1), (24, o_iald 25), (25, o_iload 26 2), (26, o_icmp_ne 38 29), (29, o_aload 30 0), (30, o_getf 33 9 22), (33, o_iload 34 1), (34, o_iald 35), (35, o_goto 39), (38, o_const 39 (-1)), (39, o_iret)]
set_option maxRecDepth 20000 in
theorem t_X9_otherEnd : ∀ q ∈ T_X9_otherEnd, zS k_X9_otherEnd q.1 q.2 := by
  unfold T_X9_otherEnd
  refine List.forall_mem_cons.mpr ⟨s_aload_n (j := 0) (by decide +kernel) rfl rfl, ?_⟩
  refine List.forall_mem_cons.mpr ⟨s_getf (idx := 55) (C := RX9) (T := TX9) (N := 54) rfl inX9 (by decide) q4_133 (by decide +kernel) rfl, ?_⟩
  refine List.forall_mem_cons.mpr ⟨s_iload_n (j := 1) (by decide +kernel) rfl rfl, ?_⟩
  refine List.forall_mem_cons.mpr ⟨s_iald (by decide +kernel) rfl, ?_⟩
  refine List.forall_mem_cons.mpr ⟨s_iload_n (j := 2) (by decide +kernel) rfl rfl, ?_⟩
  refine List.forall_mem_cons.mpr ⟨s_icmp_ne (off := 12) (by decide +kernel) (by decide) rfl, ?_⟩
  refine List.forall_mem_cons.mpr ⟨s_aload_n (j := 0) (by decide +kernel) rfl rfl, ?_⟩
  refine List.forall_mem_cons.mpr ⟨s_getf (idx := 58) (C := RX9) (T := TX9) (N := 54) rfl inX9 (by decide) q4_134 (by decide +kernel) rfl, ?_⟩
  refine List.forall_mem_cons.mpr ⟨s_iload_n (j := 1) (by decide +kernel) rfl rfl, ?_⟩
  refine List.forall_mem_cons.mpr ⟨s_iald (by decide +kernel) rfl, ?_⟩
  refine List.forall_mem_cons.mpr ⟨s_goto (off := 23) (by decide +kernel) (by decide), ?_⟩
  refine List.forall_mem_cons.mpr ⟨s_aload_n (j := 0) (by decide +kernel) rfl rfl, ?_⟩
  refine List.forall_mem_cons.mpr ⟨s_getf (idx := 58) (C := RX9) (T := TX9) (N := 54) rfl inX9 (by decide) q4_134 (by decide +kernel) rfl, ?_⟩
  refine List.forall_mem_cons.mpr ⟨s_iload_n (j := 1) (by decide +kernel) rfl rfl, ?_⟩
  refine List.forall_mem_cons.mpr ⟨s_iald (by decide +kernel) rfl, ?_⟩
  refine List.forall_mem_cons.mpr ⟨s_iload_n (j := 2) (by decide +kernel) rfl rfl, ?_⟩
  refine List.forall_mem_cons.mpr ⟨s_icmp_ne (off := 12) (by decide +kernel) (by decide) rfl, ?_⟩
  refine List.forall_mem_cons.mpr ⟨s_aload_n (j := 0) (by decide +kernel) rfl rfl, ?_⟩
  refine List.forall_mem_cons.mpr ⟨s_getf (idx := 55) (C := RX9) (T := TX9) (N := 54) rfl inX9 (by decide) q4_133 (by decide +kernel) rfl, ?_⟩
  refine List.forall_mem_cons.mpr ⟨s_iload_n (j := 1) (by decide +kernel) rfl rfl, ?_⟩
  refine List.forall_mem_cons.mpr ⟨s_iald (by decide +kernel) rfl, ?_⟩
  refine List.forall_mem_cons.mpr ⟨s_goto (off := 4) (by decide +kernel) (by decide), ?_⟩
  refine List.forall_mem_cons.mpr ⟨s_iconst (by decide +kernel) rfl, ?_⟩
  refine List.forall_mem_cons.mpr ⟨s_iret rfl (by decide +kernel), ?_⟩
  exact fun q hq => absurd hq List.not_mem_nil
def T_X9_stateOf : List (Nat × zO) := [(0, o_iload 1 0), (1, o_const 4 1440), (4, o_imul 5), (5, o_iload 6 1), (6, o_iadd 7), (7, o_const 8 4), (8, o_imul 9), (9, o_iload 10 2), (10, o_iadd 11), (11, o_iret)]
set_option maxRecDepth 20000 in
theorem t_X9_stateOf : ∀ q ∈ T_X9_stateOf, zS k_X9_stateOf q.1 q.2 := by
  unfold T_X9_stateOf
  refine List.forall_mem_cons.mpr ⟨s_iload_n (j := 0) (by decide +kernel) rfl rfl, ?_⟩
  refine List.forall_mem_cons.mpr ⟨s_sipush (by decide +kernel) (by decide) rfl, ?_⟩
  refine List.forall_mem_cons.mpr ⟨s_imul (by decide +kernel) rfl, ?_⟩
  refine List.forall_mem_cons.mpr ⟨s_iload_n (j := 1) (by decide +kernel) rfl rfl, ?_⟩
  refine List.forall_mem_cons.mpr ⟨s_iadd (by decide +kernel) rfl, ?_⟩
  refine List.forall_mem_cons.mpr ⟨s_iconst (by decide +kernel) rfl, ?_⟩
  refine List.forall_mem_cons.mpr ⟨s_imul (by decide +kernel) rfl, ?_⟩
  refine List.forall_mem_cons.mpr ⟨s_iload_n (j := 2) (by decide +kernel) rfl rfl, ?_⟩
  refine List.forall_mem_cons.mpr ⟨s_iadd (by decide +kernel) rfl, ?_⟩
  refine List.forall_mem_cons.mpr ⟨s_iret rfl (by decide +kernel), ?_⟩
  exact fun q hq => absurd hq List.not_mem_nil
def T_X9_spread : List (Nat × zO) := [(0, o_aload 1 0), (1, o_iload 2 1), (2, o_iload 3 2), (3, o_callv 2 9 k_X9_waits 6), (6, o_if_eq 23 9), (9, o_aload 10 0), (10, o_getf 13 9 35), (13, o_iload 14 1), (14, o_iload 15 2), (15, o_const 16 1), (16, o_iadd 17), (17, o_iload 18 3), (18, o_calls 3 k_X9_stateOf 21), (21, o_const 22 1), (22, o_bast 23), (23, o_iload 24 3), (24, o_const 25 3), (25, o_icmp_ge 34 28), (28, o_iload 29 3), (29, o_const 30 1), (30, o_iadd 31), (31, o_goto 35), (34, o_iload 35 3), (35, o_istore 37 4), (37, o_const 38 0), (38, o_istore 40 5), (40, o_iload 42 5), (42, o_aload 43 0), (43, o_getf 46 9 21), (46, o_icmp_ge 106 49), (49, o_aload 50 0), (50, o_iload 52 5), (52, o_iload 53 1), (53, o_callv 2 9 k_X9_otherEnd 56), (56, o_istore 58 6), (58, o_iload 60 6), (60, o_if_lt 100 63), (63, o_aload 64 0), (64, o_iload 66 5), (66, o_iload 67 2), (67, o_iload 68 3), (68, o_callv 3 9 k_X9_goes 71), (71, o_if_eq 100 74), (74, o_aload 75 0), (75, o_getf 78 9 35), (78, o_iload 80 6), (80, o_iload 81 2), (81, o_aload 82 0), (82, o_iload 84 5), (84, o_aload 85 0), (85, o_getf 88 9 27), (88, o_iload 89 3), (89, o_callv 3 9 k_X9_takesOf 92), (92, o_iadd 93), (93, o_iload 95 4), (95, o_calls 3 k_X9_stateOf 98), (98, o_const 99 1), (99, o_bast 100), (100, o_iinc 103 5 1), (103, o_goto 40), (106, o_vret)]
set_option maxRecDepth 20000 in
theorem t_X9_spread : ∀ q ∈ T_X9_spread, zS k_X9_spread q.1 q.2 := by
  unfold T_X9_spread
  refine List.forall_mem_cons.mpr ⟨s_aload_n (j := 0) (by decide +kernel) rfl rfl, ?_⟩
  refine List.forall_mem_cons.mpr ⟨s_iload_n (j := 1) (by decide +kernel) rfl rfl, ?_⟩
  refine List.forall_mem_cons.mpr ⟨s_iload_n (j := 2) (by decide +kernel) rfl rfl, ?_⟩
  refine List.forall_mem_cons.mpr ⟨s_callv (idx := 224) (k' := k_X9_waits) (T := TX9) (N := 54) rfl q5_199 q5_196 q5_198 qs_50 q1_10 de_X9_waits (by decide) (by decide +kernel) rfl, ?_⟩
  refine List.forall_mem_cons.mpr ⟨s_if_eq (off := 17) (by decide +kernel) (by decide) rfl, ?_⟩
  refine List.forall_mem_cons.mpr ⟨s_aload_n (j := 0) (by decide +kernel) rfl rfl, ?_⟩
  refine List.forall_mem_cons.mpr ⟨s_getf (idx := 86) (C := RX9) (T := TX9) (N := 54) rfl inX9 (by decide) q4_146 (by decide +kernel) rfl, ?_⟩
  refine List.forall_mem_cons.mpr ⟨s_iload_n (j := 1) (by decide +kernel) rfl rfl, ?_⟩
  refine List.forall_mem_cons.mpr ⟨s_iload_n (j := 2) (by decide +kernel) rfl rfl, ?_⟩
  refine List.forall_mem_cons.mpr ⟨s_iconst (by decide +kernel) rfl, ?_⟩
  refine List.forall_mem_cons.mpr ⟨s_iadd (by decide +kernel) rfl, ?_⟩
  refine List.forall_mem_cons.mpr ⟨s_iload_n (j := 3) (by decide +kernel) rfl rfl, ?_⟩
  refine List.forall_mem_cons.mpr ⟨s_calls (idx := 228) (k' := k_X9_stateOf) q5_191 q5_189 q5_190 q1_10 de_X9_stateOf (by decide) (by decide +kernel) rfl, ?_⟩
  refine List.forall_mem_cons.mpr ⟨s_iconst (by decide +kernel) rfl, ?_⟩
  refine List.forall_mem_cons.mpr ⟨s_bast (by decide +kernel) rfl, ?_⟩
  refine List.forall_mem_cons.mpr ⟨s_iload_n (j := 3) (by decide +kernel) rfl rfl, ?_⟩
  refine List.forall_mem_cons.mpr ⟨s_iconst (by decide +kernel) rfl, ?_⟩
  refine List.forall_mem_cons.mpr ⟨s_icmp_ge (off := 9) (by decide +kernel) (by decide) rfl, ?_⟩
  refine List.forall_mem_cons.mpr ⟨s_iload_n (j := 3) (by decide +kernel) rfl rfl, ?_⟩
  refine List.forall_mem_cons.mpr ⟨s_iconst (by decide +kernel) rfl, ?_⟩
  refine List.forall_mem_cons.mpr ⟨s_iadd (by decide +kernel) rfl, ?_⟩
  refine List.forall_mem_cons.mpr ⟨s_goto (off := 4) (by decide +kernel) (by decide), ?_⟩
  refine List.forall_mem_cons.mpr ⟨s_iload_n (j := 3) (by decide +kernel) rfl rfl, ?_⟩
  refine List.forall_mem_cons.mpr ⟨s_istore (by decide +kernel) (by decide) rfl, ?_⟩
  refine List.forall_mem_cons.mpr ⟨s_iconst (by decide +kernel) rfl, ?_⟩
  refine List.forall_mem_cons.mpr ⟨s_istore (by decide +kernel) (by decide) rfl, ?_⟩
  refine List.forall_mem_cons.mpr ⟨s_iload (by decide +kernel) rfl, ?_⟩
  refine List.forall_mem_cons.mpr ⟨s_aload_n (j := 0) (by decide +kernel) rfl rfl, ?_⟩
  refine List.forall_mem_cons.mpr ⟨s_getf (idx := 184) (C := RX9) (T := TX9) (N := 54) rfl inX9 (by decide) q4_132 (by decide +kernel) rfl, ?_⟩
  refine List.forall_mem_cons.mpr ⟨s_icmp_ge (off := 60) (by decide +kernel) (by decide) rfl, ?_⟩
  refine List.forall_mem_cons.mpr ⟨s_aload_n (j := 0) (by decide +kernel) rfl rfl, ?_⟩
  refine List.forall_mem_cons.mpr ⟨s_iload (by decide +kernel) rfl, ?_⟩
  refine List.forall_mem_cons.mpr ⟨s_iload_n (j := 1) (by decide +kernel) rfl rfl, ?_⟩
  refine List.forall_mem_cons.mpr ⟨s_callv (idx := 231) (k' := k_X9_otherEnd) (T := TX9) (N := 54) rfl q5_203 q5_200 q5_202 qs_51 q1_10 de_X9_otherEnd (by decide) (by decide +kernel) rfl, ?_⟩
  refine List.forall_mem_cons.mpr ⟨s_istore (by decide +kernel) (by decide) rfl, ?_⟩
  refine List.forall_mem_cons.mpr ⟨s_iload (by decide +kernel) rfl, ?_⟩
  refine List.forall_mem_cons.mpr ⟨s_if_lt (off := 40) (by decide +kernel) (by decide) rfl, ?_⟩
  refine List.forall_mem_cons.mpr ⟨s_aload_n (j := 0) (by decide +kernel) rfl rfl, ?_⟩
  refine List.forall_mem_cons.mpr ⟨s_iload (by decide +kernel) rfl, ?_⟩
  refine List.forall_mem_cons.mpr ⟨s_iload_n (j := 2) (by decide +kernel) rfl rfl, ?_⟩
  refine List.forall_mem_cons.mpr ⟨s_iload_n (j := 3) (by decide +kernel) rfl rfl, ?_⟩
  refine List.forall_mem_cons.mpr ⟨s_callv (idx := 234) (k' := k_X9_goes) (T := TX9) (N := 54) rfl q5_176 q5_173 q5_175 qs_46 q1_10 de_X9_goes (by decide) (by decide +kernel) rfl, ?_⟩
  refine List.forall_mem_cons.mpr ⟨s_if_eq (off := 29) (by decide +kernel) (by decide) rfl, ?_⟩
  refine List.forall_mem_cons.mpr ⟨s_aload_n (j := 0) (by decide +kernel) rfl rfl, ?_⟩
  refine List.forall_mem_cons.mpr ⟨s_getf (idx := 86) (C := RX9) (T := TX9) (N := 54) rfl inX9 (by decide) q4_146 (by decide +kernel) rfl, ?_⟩
  refine List.forall_mem_cons.mpr ⟨s_iload (by decide +kernel) rfl, ?_⟩
  refine List.forall_mem_cons.mpr ⟨s_iload_n (j := 2) (by decide +kernel) rfl rfl, ?_⟩
  refine List.forall_mem_cons.mpr ⟨s_aload_n (j := 0) (by decide +kernel) rfl rfl, ?_⟩
  refine List.forall_mem_cons.mpr ⟨s_iload (by decide +kernel) rfl, ?_⟩
  refine List.forall_mem_cons.mpr ⟨s_aload_n (j := 0) (by decide +kernel) rfl rfl, ?_⟩
  refine List.forall_mem_cons.mpr ⟨s_getf (idx := 218) (C := RX9) (T := TX9) (N := 54) rfl inX9 (by decide) q4_138 (by decide +kernel) rfl, ?_⟩
  refine List.forall_mem_cons.mpr ⟨s_iload_n (j := 3) (by decide +kernel) rfl rfl, ?_⟩
  refine List.forall_mem_cons.mpr ⟨s_callv (idx := 215) (k' := k_X9_takesOf) (T := TX9) (N := 54) rfl q5_155 q5_152 q5_154 qs_42 q1_10 de_X9_takesOf (by decide) (by decide +kernel) rfl, ?_⟩
  refine List.forall_mem_cons.mpr ⟨s_iadd (by decide +kernel) rfl, ?_⟩
  refine List.forall_mem_cons.mpr ⟨s_iload (by decide +kernel) rfl, ?_⟩
  refine List.forall_mem_cons.mpr ⟨s_calls (idx := 228) (k' := k_X9_stateOf) q5_191 q5_189 q5_190 q1_10 de_X9_stateOf (by decide) (by decide +kernel) rfl, ?_⟩
  refine List.forall_mem_cons.mpr ⟨s_iconst (by decide +kernel) rfl, ?_⟩
  refine List.forall_mem_cons.mpr ⟨s_bast (by decide +kernel) rfl, ?_⟩
  refine List.forall_mem_cons.mpr ⟨s_iinc (by decide +kernel) (by decide) rfl, ?_⟩
  refine List.forall_mem_cons.mpr ⟨s_goto (off := (-63)) (by decide +kernel) (by decide), ?_⟩
  refine List.forall_mem_cons.mpr ⟨s_vret rfl (by decide +kernel), ?_⟩
  exact fun q hq => absurd hq List.not_mem_nil
def T_X9_reach : List (Nat × zO) := [(0, o_aload 1 0), (1, o_iload 2 2), (2, o_iload 3 3), (3, o_callv 2 9 k_X9_layOut 6), (6, o_const 7 0), (7, o_istore 9 4), (9, o_iload 11 4), (11, o_aload 12 0), (12, o_getf 15 9 20), (15, o_const 18 1440), (18, o_imul 19), (19, o_const 20 4), (20, o_imul 21), (21, o_icmp_ge 38 24), (24, o_aload 25 0), (25, o_getf 28 9 35), (28, o_iload 30 4), (30, o_const 31 0), (31, o_bast 32), (32, o_iinc 35 4 1), (35, o_goto 9), (38, o_aload 39 0), (39, o_getf 42 9 35), (42, o_iload 43 1), (43, o_const 46 10000), (46, o_idiv 47), (47, o_iload 48 1), (48, o_const 51 10000), (51, o_irem 52), (52, o_const 53 0), (53, o_calls 3 k_X9_stateOf 56), (56, o_const 57 1), (57, o_bast 58), (58, o_iload 59 1), (59, o_const 62 10000), (62, o_irem 63), (63, o_istore 65 4), (65, o_iload 67 4), (67, o_const 70 1440), (70, o_icmp_ge 139 73), (73, o_const 74 0), (74, o_istore 76 5), (76, o_iload 78 5), (78, o_aload 79 0), (79, o_getf 82 9 20), (82, o_icmp_ge 133 85), (85, o_const 86 0), (86, o_istore 88 6), (88, o_iload 90 6), (90, o_const 91 4), (91, o_icmp_ge 127 94), (94, o_aload 95 0), (95, o_getf 98 9 35), (98, o_iload 100 5), (100, o_iload 102 4), (102, o_iload 104 6), (104, o_calls 3 k_X9_stateOf 107), (107, o_bald 108), (108, o_if_eq 121 111), (111, o_aload 112 0), (112, o_iload 114 5), (114, o_iload 116 4), (116, o_iload 118 6), (118, o_callv 3 9 k_X9_spread 121), (121, o_iinc 124 6 1), (124, o_goto 88), (127, o_iinc 130 5 1), (130, o_goto 76), (133, o_iinc 136 4 1), (136, o_goto 65), (139, o_vret)]
set_option maxRecDepth 20000 in
theorem t_X9_reach : ∀ q ∈ T_X9_reach, zS k_X9_reach q.1 q.2 := by
  unfold T_X9_reach
  refine List.forall_mem_cons.mpr ⟨s_aload_n (j := 0) (by decide +kernel) rfl rfl, ?_⟩
  refine List.forall_mem_cons.mpr ⟨s_iload_n (j := 2) (by decide +kernel) rfl rfl, ?_⟩
  refine List.forall_mem_cons.mpr ⟨s_iload_n (j := 3) (by decide +kernel) rfl rfl, ?_⟩
  refine List.forall_mem_cons.mpr ⟨s_callv (idx := 238) (k' := k_X9_layOut) (T := TX9) (N := 54) rfl q5_172 q5_169 q5_171 qs_45 q1_10 de_X9_layOut (by decide) (by decide +kernel) rfl, ?_⟩
  refine List.forall_mem_cons.mpr ⟨s_iconst (by decide +kernel) rfl, ?_⟩
  refine List.forall_mem_cons.mpr ⟨s_istore (by decide +kernel) (by decide) rfl, ?_⟩
  refine List.forall_mem_cons.mpr ⟨s_iload (by decide +kernel) rfl, ?_⟩
  refine List.forall_mem_cons.mpr ⟨s_aload_n (j := 0) (by decide +kernel) rfl rfl, ?_⟩
  refine List.forall_mem_cons.mpr ⟨s_getf (idx := 181) (C := RX9) (T := TX9) (N := 54) rfl inX9 (by decide) q4_131 (by decide +kernel) rfl, ?_⟩
  refine List.forall_mem_cons.mpr ⟨s_sipush (by decide +kernel) (by decide) rfl, ?_⟩
  refine List.forall_mem_cons.mpr ⟨s_imul (by decide +kernel) rfl, ?_⟩
  refine List.forall_mem_cons.mpr ⟨s_iconst (by decide +kernel) rfl, ?_⟩
  refine List.forall_mem_cons.mpr ⟨s_imul (by decide +kernel) rfl, ?_⟩
  refine List.forall_mem_cons.mpr ⟨s_icmp_ge (off := 17) (by decide +kernel) (by decide) rfl, ?_⟩
  refine List.forall_mem_cons.mpr ⟨s_aload_n (j := 0) (by decide +kernel) rfl rfl, ?_⟩
  refine List.forall_mem_cons.mpr ⟨s_getf (idx := 86) (C := RX9) (T := TX9) (N := 54) rfl inX9 (by decide) q4_146 (by decide +kernel) rfl, ?_⟩
  refine List.forall_mem_cons.mpr ⟨s_iload (by decide +kernel) rfl, ?_⟩
  refine List.forall_mem_cons.mpr ⟨s_iconst (by decide +kernel) rfl, ?_⟩
  refine List.forall_mem_cons.mpr ⟨s_bast (by decide +kernel) rfl, ?_⟩
  refine List.forall_mem_cons.mpr ⟨s_iinc (by decide +kernel) (by decide) rfl, ?_⟩
  refine List.forall_mem_cons.mpr ⟨s_goto (off := (-26)) (by decide +kernel) (by decide), ?_⟩
  refine List.forall_mem_cons.mpr ⟨s_aload_n (j := 0) (by decide +kernel) rfl rfl, ?_⟩
  refine List.forall_mem_cons.mpr ⟨s_getf (idx := 86) (C := RX9) (T := TX9) (N := 54) rfl inX9 (by decide) q4_146 (by decide +kernel) rfl, ?_⟩
  refine List.forall_mem_cons.mpr ⟨s_iload_n (j := 1) (by decide +kernel) rfl rfl, ?_⟩
  refine List.forall_mem_cons.mpr ⟨s_sipush (by decide +kernel) (by decide) rfl, ?_⟩
  refine List.forall_mem_cons.mpr ⟨s_idiv (by decide +kernel) rfl, ?_⟩
  refine List.forall_mem_cons.mpr ⟨s_iload_n (j := 1) (by decide +kernel) rfl rfl, ?_⟩
  refine List.forall_mem_cons.mpr ⟨s_sipush (by decide +kernel) (by decide) rfl, ?_⟩
  refine List.forall_mem_cons.mpr ⟨s_irem (by decide +kernel) rfl, ?_⟩
  refine List.forall_mem_cons.mpr ⟨s_iconst (by decide +kernel) rfl, ?_⟩
  refine List.forall_mem_cons.mpr ⟨s_calls (idx := 228) (k' := k_X9_stateOf) q5_191 q5_189 q5_190 q1_10 de_X9_stateOf (by decide) (by decide +kernel) rfl, ?_⟩
  refine List.forall_mem_cons.mpr ⟨s_iconst (by decide +kernel) rfl, ?_⟩
  refine List.forall_mem_cons.mpr ⟨s_bast (by decide +kernel) rfl, ?_⟩
  refine List.forall_mem_cons.mpr ⟨s_iload_n (j := 1) (by decide +kernel) rfl rfl, ?_⟩
  refine List.forall_mem_cons.mpr ⟨s_sipush (by decide +kernel) (by decide) rfl, ?_⟩
  refine List.forall_mem_cons.mpr ⟨s_irem (by decide +kernel) rfl, ?_⟩
  refine List.forall_mem_cons.mpr ⟨s_istore (by decide +kernel) (by decide) rfl, ?_⟩
  refine List.forall_mem_cons.mpr ⟨s_iload (by decide +kernel) rfl, ?_⟩
  refine List.forall_mem_cons.mpr ⟨s_sipush (by decide +kernel) (by decide) rfl, ?_⟩
  refine List.forall_mem_cons.mpr ⟨s_icmp_ge (off := 69) (by decide +kernel) (by decide) rfl, ?_⟩
  refine List.forall_mem_cons.mpr ⟨s_iconst (by decide +kernel) rfl, ?_⟩
  refine List.forall_mem_cons.mpr ⟨s_istore (by decide +kernel) (by decide) rfl, ?_⟩
  refine List.forall_mem_cons.mpr ⟨s_iload (by decide +kernel) rfl, ?_⟩
  refine List.forall_mem_cons.mpr ⟨s_aload_n (j := 0) (by decide +kernel) rfl rfl, ?_⟩
  refine List.forall_mem_cons.mpr ⟨s_getf (idx := 181) (C := RX9) (T := TX9) (N := 54) rfl inX9 (by decide) q4_131 (by decide +kernel) rfl, ?_⟩
  refine List.forall_mem_cons.mpr ⟨s_icmp_ge (off := 51) (by decide +kernel) (by decide) rfl, ?_⟩
  refine List.forall_mem_cons.mpr ⟨s_iconst (by decide +kernel) rfl, ?_⟩
  refine List.forall_mem_cons.mpr ⟨s_istore (by decide +kernel) (by decide) rfl, ?_⟩
  refine List.forall_mem_cons.mpr ⟨s_iload (by decide +kernel) rfl, ?_⟩
  refine List.forall_mem_cons.mpr ⟨s_iconst (by decide +kernel) rfl, ?_⟩
  refine List.forall_mem_cons.mpr ⟨s_icmp_ge (off := 36) (by decide +kernel) (by decide) rfl, ?_⟩
  refine List.forall_mem_cons.mpr ⟨s_aload_n (j := 0) (by decide +kernel) rfl rfl, ?_⟩
  refine List.forall_mem_cons.mpr ⟨s_getf (idx := 86) (C := RX9) (T := TX9) (N := 54) rfl inX9 (by decide) q4_146 (by decide +kernel) rfl, ?_⟩
  refine List.forall_mem_cons.mpr ⟨s_iload (by decide +kernel) rfl, ?_⟩
  refine List.forall_mem_cons.mpr ⟨s_iload (by decide +kernel) rfl, ?_⟩
  refine List.forall_mem_cons.mpr ⟨s_iload (by decide +kernel) rfl, ?_⟩
  refine List.forall_mem_cons.mpr ⟨s_calls (idx := 228) (k' := k_X9_stateOf) q5_191 q5_189 q5_190 q1_10 de_X9_stateOf (by decide) (by decide +kernel) rfl, ?_⟩
  refine List.forall_mem_cons.mpr ⟨s_bald (by decide +kernel) rfl, ?_⟩
  refine List.forall_mem_cons.mpr ⟨s_if_eq (off := 13) (by decide +kernel) (by decide) rfl, ?_⟩
  refine List.forall_mem_cons.mpr ⟨s_aload_n (j := 0) (by decide +kernel) rfl rfl, ?_⟩
  refine List.forall_mem_cons.mpr ⟨s_iload (by decide +kernel) rfl, ?_⟩
  refine List.forall_mem_cons.mpr ⟨s_iload (by decide +kernel) rfl, ?_⟩
  refine List.forall_mem_cons.mpr ⟨s_iload (by decide +kernel) rfl, ?_⟩
  refine List.forall_mem_cons.mpr ⟨s_callv (idx := 242) (k' := k_X9_spread) (T := TX9) (N := 54) rfl q5_195 q5_192 q5_194 qs_49 q1_10 de_X9_spread (by decide) (by decide +kernel) rfl, ?_⟩
  refine List.forall_mem_cons.mpr ⟨s_iinc (by decide +kernel) (by decide) rfl, ?_⟩
  refine List.forall_mem_cons.mpr ⟨s_goto (off := (-36)) (by decide +kernel) (by decide), ?_⟩
  refine List.forall_mem_cons.mpr ⟨s_iinc (by decide +kernel) (by decide) rfl, ?_⟩
  refine List.forall_mem_cons.mpr ⟨s_goto (off := (-54)) (by decide +kernel) (by decide), ?_⟩
  refine List.forall_mem_cons.mpr ⟨s_iinc (by decide +kernel) (by decide) rfl, ?_⟩
  refine List.forall_mem_cons.mpr ⟨s_goto (off := (-71)) (by decide +kernel) (by decide), ?_⟩
  refine List.forall_mem_cons.mpr ⟨s_vret rfl (by decide +kernel), ?_⟩
  exact fun q hq => absurd hq List.not_mem_nil
def T_X9_isAt : List (Nat × zO) := [(0, o_const 1 0), (1, o_istore 2 3), (2, o_iload 3 3), (3, o_const 4 4), (4, o_icmp_ge 29 7), (7, o_aload 8 0), (8, o_getf 11 9 35), (11, o_iload 12 1), (12, o_iload 13 2), (13, o_iload 14 3), (14, o_calls 3 k_X9_stateOf 17), (17, o_bald 18), (18, o_if_eq 23 21), (21, o_const 22 1), (22, o_zret), (23, o_iinc 26 3 1), (26, o_goto 2), (29, o_const 30 0), (30, o_zret)]
set_option maxRecDepth 20000 in
theorem t_X9_isAt : ∀ q ∈ T_X9_isAt, zS k_X9_isAt q.1 q.2 := by
  unfold T_X9_isAt
  refine List.forall_mem_cons.mpr ⟨s_iconst (by decide +kernel) rfl, ?_⟩
  refine List.forall_mem_cons.mpr ⟨s_istore_n (j := 3) (by decide +kernel) rfl (by decide) rfl, ?_⟩
  refine List.forall_mem_cons.mpr ⟨s_iload_n (j := 3) (by decide +kernel) rfl rfl, ?_⟩
  refine List.forall_mem_cons.mpr ⟨s_iconst (by decide +kernel) rfl, ?_⟩
  refine List.forall_mem_cons.mpr ⟨s_icmp_ge (off := 25) (by decide +kernel) (by decide) rfl, ?_⟩
  refine List.forall_mem_cons.mpr ⟨s_aload_n (j := 0) (by decide +kernel) rfl rfl, ?_⟩
  refine List.forall_mem_cons.mpr ⟨s_getf (idx := 86) (C := RX9) (T := TX9) (N := 54) rfl inX9 (by decide) q4_146 (by decide +kernel) rfl, ?_⟩
  refine List.forall_mem_cons.mpr ⟨s_iload_n (j := 1) (by decide +kernel) rfl rfl, ?_⟩
  refine List.forall_mem_cons.mpr ⟨s_iload_n (j := 2) (by decide +kernel) rfl rfl, ?_⟩
  refine List.forall_mem_cons.mpr ⟨s_iload_n (j := 3) (by decide +kernel) rfl rfl, ?_⟩
  refine List.forall_mem_cons.mpr ⟨s_calls (idx := 228) (k' := k_X9_stateOf) q5_191 q5_189 q5_190 q1_10 de_X9_stateOf (by decide) (by decide +kernel) rfl, ?_⟩
  refine List.forall_mem_cons.mpr ⟨s_bald (by decide +kernel) rfl, ?_⟩
  refine List.forall_mem_cons.mpr ⟨s_if_eq (off := 5) (by decide +kernel) (by decide) rfl, ?_⟩
  refine List.forall_mem_cons.mpr ⟨s_iconst (by decide +kernel) rfl, ?_⟩
  refine List.forall_mem_cons.mpr ⟨s_zret rfl (by decide +kernel), ?_⟩
  refine List.forall_mem_cons.mpr ⟨s_iinc (by decide +kernel) (by decide) rfl, ?_⟩
  refine List.forall_mem_cons.mpr ⟨s_goto (off := (-24)) (by decide +kernel) (by decide), ?_⟩
  refine List.forall_mem_cons.mpr ⟨s_iconst (by decide +kernel) rfl, ?_⟩
  refine List.forall_mem_cons.mpr ⟨s_zret rfl (by decide +kernel), ?_⟩
  exact fun q hq => absurd hq List.not_mem_nil
def T_X9_soonAt : List (Nat × zO) := [(0, o_const 1 0), (1, o_istore 2 2), (2, o_iload 3 2), (3, o_const 6 1440), (6, o_icmp_ge 26 9), (9, o_aload 10 0), (10, o_iload 11 1), (11, o_iload 12 2), (12, o_callv 2 9 k_X9_isAt 15), (15, o_if_eq 20 18), (18, o_iload 19 2), (19, o_iret), (20, o_iinc 23 2 1), (23, o_goto 2), (26, o_const 28 (-2)), (28, o_iret)]
set_option maxRecDepth 20000 in
theorem t_X9_soonAt : ∀ q ∈ T_X9_soonAt, zS k_X9_soonAt q.1 q.2 := by
  unfold T_X9_soonAt
  refine List.forall_mem_cons.mpr ⟨s_iconst (by decide +kernel) rfl, ?_⟩
  refine List.forall_mem_cons.mpr ⟨s_istore_n (j := 2) (by decide +kernel) rfl (by decide) rfl, ?_⟩
  refine List.forall_mem_cons.mpr ⟨s_iload_n (j := 2) (by decide +kernel) rfl rfl, ?_⟩
  refine List.forall_mem_cons.mpr ⟨s_sipush (by decide +kernel) (by decide) rfl, ?_⟩
  refine List.forall_mem_cons.mpr ⟨s_icmp_ge (off := 20) (by decide +kernel) (by decide) rfl, ?_⟩
  refine List.forall_mem_cons.mpr ⟨s_aload_n (j := 0) (by decide +kernel) rfl rfl, ?_⟩
  refine List.forall_mem_cons.mpr ⟨s_iload_n (j := 1) (by decide +kernel) rfl rfl, ?_⟩
  refine List.forall_mem_cons.mpr ⟨s_iload_n (j := 2) (by decide +kernel) rfl rfl, ?_⟩
  refine List.forall_mem_cons.mpr ⟨s_callv (idx := 246) (k' := k_X9_isAt) (T := TX9) (N := 54) rfl q5_211 q5_208 q5_210 qs_53 q1_10 de_X9_isAt (by decide) (by decide +kernel) rfl, ?_⟩
  refine List.forall_mem_cons.mpr ⟨s_if_eq (off := 5) (by decide +kernel) (by decide) rfl, ?_⟩
  refine List.forall_mem_cons.mpr ⟨s_iload_n (j := 2) (by decide +kernel) rfl rfl, ?_⟩
  refine List.forall_mem_cons.mpr ⟨s_iret rfl (by decide +kernel), ?_⟩
  refine List.forall_mem_cons.mpr ⟨s_iinc (by decide +kernel) (by decide) rfl, ?_⟩
  refine List.forall_mem_cons.mpr ⟨s_goto (off := (-21)) (by decide +kernel) (by decide), ?_⟩
  refine List.forall_mem_cons.mpr ⟨s_bipush (by decide +kernel) (by decide) rfl, ?_⟩
  refine List.forall_mem_cons.mpr ⟨s_iret rfl (by decide +kernel), ?_⟩
  exact fun q hq => absurd hq List.not_mem_nil
def T_X9_isFrom : List (Nat × zO) := [(0, o_iload 1 1), (1, o_if_lt 31 4), (4, o_aload 5 0), (5, o_iload 6 1), (6, o_const 9 10000), (9, o_idiv 10), (10, o_callv 1 9 k_X9_isPlace 13), (13, o_if_eq 31 16), (16, o_iload 17 1), (17, o_const 20 10000), (20, o_irem 21), (21, o_calls 1 k_X9_isMinute 24), (24, o_if_eq 31 27), (27, o_const 28 1), (28, o_goto 32), (31, o_const 32 0), (32, o_zret)]
set_option maxRecDepth 20000 in
theorem t_X9_isFrom : ∀ q ∈ T_X9_isFrom, zS k_X9_isFrom q.1 q.2 := by
  unfold T_X9_isFrom
  refine List.forall_mem_cons.mpr ⟨s_iload_n (j := 1) (by decide +kernel) rfl rfl, ?_⟩
  refine List.forall_mem_cons.mpr ⟨s_if_lt (off := 30) (by decide +kernel) (by decide) rfl, ?_⟩
  refine List.forall_mem_cons.mpr ⟨s_aload_n (j := 0) (by decide +kernel) rfl rfl, ?_⟩
  refine List.forall_mem_cons.mpr ⟨s_iload_n (j := 1) (by decide +kernel) rfl rfl, ?_⟩
  refine List.forall_mem_cons.mpr ⟨s_sipush (by decide +kernel) (by decide) rfl, ?_⟩
  refine List.forall_mem_cons.mpr ⟨s_idiv (by decide +kernel) rfl, ?_⟩
  refine List.forall_mem_cons.mpr ⟨s_callv (idx := 189) (k' := k_X9_isPlace) (T := TX9) (N := 54) rfl q5_116 q5_113 q5_115 qs_39 q1_10 de_X9_isPlace (by decide) (by decide +kernel) rfl, ?_⟩
  refine List.forall_mem_cons.mpr ⟨s_if_eq (off := 18) (by decide +kernel) (by decide) rfl, ?_⟩
  refine List.forall_mem_cons.mpr ⟨s_iload_n (j := 1) (by decide +kernel) rfl rfl, ?_⟩
  refine List.forall_mem_cons.mpr ⟨s_sipush (by decide +kernel) (by decide) rfl, ?_⟩
  refine List.forall_mem_cons.mpr ⟨s_irem (by decide +kernel) rfl, ?_⟩
  refine List.forall_mem_cons.mpr ⟨s_calls (idx := 174) (k' := k_X9_isMinute) q5_89 q5_87 q5_88 q1_10 de_X9_isMinute (by decide) (by decide +kernel) rfl, ?_⟩
  refine List.forall_mem_cons.mpr ⟨s_if_eq (off := 7) (by decide +kernel) (by decide) rfl, ?_⟩
  refine List.forall_mem_cons.mpr ⟨s_iconst (by decide +kernel) rfl, ?_⟩
  refine List.forall_mem_cons.mpr ⟨s_goto (off := 4) (by decide +kernel) (by decide), ?_⟩
  refine List.forall_mem_cons.mpr ⟨s_iconst (by decide +kernel) rfl, ?_⟩
  refine List.forall_mem_cons.mpr ⟨s_zret rfl (by decide +kernel), ?_⟩
  exact fun q hq => absurd hq List.not_mem_nil
def T_X9_isSt : List (Nat × zO) := [(0, o_iload 1 1), (1, o_if_lt 29 4), (4, o_iload 5 1), (5, o_const 7 10), (7, o_idiv 8), (8, o_calls 1 k_X9_isSort 11), (11, o_if_eq 29 14), (14, o_aload 15 0), (15, o_iload 16 1), (16, o_const 18 10), (18, o_irem 19), (19, o_callv 1 9 k_X9_isTide 22), (22, o_if_eq 29 25), (25, o_const 26 1), (26, o_goto 30), (29, o_const 30 0), (30, o_zret)]
set_option maxRecDepth 20000 in
theorem t_X9_isSt : ∀ q ∈ T_X9_isSt, zS k_X9_isSt q.1 q.2 := by
  unfold T_X9_isSt
  refine List.forall_mem_cons.mpr ⟨s_iload_n (j := 1) (by decide +kernel) rfl rfl, ?_⟩
  refine List.forall_mem_cons.mpr ⟨s_if_lt (off := 28) (by decide +kernel) (by decide) rfl, ?_⟩
  refine List.forall_mem_cons.mpr ⟨s_iload_n (j := 1) (by decide +kernel) rfl rfl, ?_⟩
  refine List.forall_mem_cons.mpr ⟨s_bipush (by decide +kernel) (by decide) rfl, ?_⟩
  refine List.forall_mem_cons.mpr ⟨s_idiv (by decide +kernel) rfl, ?_⟩
  refine List.forall_mem_cons.mpr ⟨s_calls (idx := 205) (k' := k_X9_isSort) q5_140 q5_138 q5_139 q1_10 de_X9_isSort (by decide) (by decide +kernel) rfl, ?_⟩
  refine List.forall_mem_cons.mpr ⟨s_if_eq (off := 18) (by decide +kernel) (by decide) rfl, ?_⟩
  refine List.forall_mem_cons.mpr ⟨s_aload_n (j := 0) (by decide +kernel) rfl rfl, ?_⟩
  refine List.forall_mem_cons.mpr ⟨s_iload_n (j := 1) (by decide +kernel) rfl rfl, ?_⟩
  refine List.forall_mem_cons.mpr ⟨s_bipush (by decide +kernel) (by decide) rfl, ?_⟩
  refine List.forall_mem_cons.mpr ⟨s_irem (by decide +kernel) rfl, ?_⟩
  refine List.forall_mem_cons.mpr ⟨s_callv (idx := 167) (k' := k_X9_isTide) (T := TX9) (N := 54) rfl q5_82 q5_79 q5_81 qs_34 q1_10 de_X9_isTide (by decide) (by decide +kernel) rfl, ?_⟩
  refine List.forall_mem_cons.mpr ⟨s_if_eq (off := 7) (by decide +kernel) (by decide) rfl, ?_⟩
  refine List.forall_mem_cons.mpr ⟨s_iconst (by decide +kernel) rfl, ?_⟩
  refine List.forall_mem_cons.mpr ⟨s_goto (off := 4) (by decide +kernel) (by decide), ?_⟩
  refine List.forall_mem_cons.mpr ⟨s_iconst (by decide +kernel) rfl, ?_⟩
  refine List.forall_mem_cons.mpr ⟨s_zret rfl (by decide +kernel), ?_⟩
  exact fun q hq => absurd hq List.not_mem_nil
def T_X9_areWinds : List (Nat × zO) := [(0, o_iload 1 1), (1, o_if_le 17 4), (4, o_iload 5 1), (5, o_aload 6 0), (6, o_getf 9 9 16), (9, o_ishr 10), (10, o_if_ne 17 13), (13, o_const 14 1), (14, o_goto 18), (17, o_const 18 0), (18, o_zret)]
set_option maxRecDepth 20000 in
theorem t_X9_areWinds : ∀ q ∈ T_X9_areWinds, zS k_X9_areWinds q.1 q.2 := by
  unfold T_X9_areWinds
  refine List.forall_mem_cons.mpr ⟨s_iload_n (j := 1) (by decide +kernel) rfl rfl, ?_⟩
  refine List.forall_mem_cons.mpr ⟨s_if_le (off := 16) (by decide +kernel) (by decide) rfl, ?_⟩
  refine List.forall_mem_cons.mpr ⟨s_iload_n (j := 1) (by decide +kernel) rfl rfl, ?_⟩
  refine List.forall_mem_cons.mpr ⟨s_aload_n (j := 0) (by decide +kernel) rfl rfl, ?_⟩
  refine List.forall_mem_cons.mpr ⟨s_getf (idx := 117) (C := RX9) (T := TX9) (N := 54) rfl inX9 (by decide) q4_127 (by decide +kernel) rfl, ?_⟩
  refine List.forall_mem_cons.mpr ⟨s_ishr (by decide +kernel) rfl, ?_⟩
  refine List.forall_mem_cons.mpr ⟨s_if_ne (off := 7) (by decide +kernel) (by decide) rfl, ?_⟩
  refine List.forall_mem_cons.mpr ⟨s_iconst (by decide +kernel) rfl, ?_⟩
  refine List.forall_mem_cons.mpr ⟨s_goto (off := 4) (by decide +kernel) (by decide), ?_⟩
  refine List.forall_mem_cons.mpr ⟨s_iconst (by decide +kernel) rfl, ?_⟩
  refine List.forall_mem_cons.mpr ⟨s_zret rfl (by decide +kernel), ?_⟩
  exact fun q hq => absurd hq List.not_mem_nil
def T_X9_open : List (Nat × zO) := [(0, o_aload 1 0), (1, o_iload 2 1), (2, o_callv 1 9 k_X9_isWay 5), (5, o_if_eq 37 8), (8, o_aload 9 0), (9, o_iload 10 2), (10, o_callv 1 9 k_X9_isSt 13), (13, o_if_eq 37 16), (16, o_aload 17 0), (17, o_iload 18 3), (18, o_callv 1 9 k_X9_areWinds 21), (21, o_if_eq 37 24), (24, o_iload 26 4), (26, o_i2l 27), (27, o_lconst 28 0), (28, o_lconst 31 (2)), (31, o_calls 3 k_X9_within 34), (34, o_if_ne 39 37), (37, o_const 38 (-1)), (38, o_iret), (39, o_aload 40 0), (40, o_iload 41 2), (41, o_iload 42 3), (42, o_callv 2 9 k_X9_layOut 45), (45, o_const 46 0), (46, o_istore 48 5), (48, o_const 50 (-2)), (50, o_istore 52 6), (52, o_const 54 (-2)), (54, o_istore 56 7), (56, o_const 57 0), (57, o_istore 59 8), (59, o_iload 61 8), (61, o_const 64 1440), (64, o_icmp_ge 105 67), (67, o_aload 68 0), (68, o_iload 69 1), (69, o_iload 71 8), (71, o_const 72 0), (72, o_callv 3 9 k_X9_goes 75), (75, o_if_eq 99 78), (78, o_iinc 81 5 1), (81, o_iload 83 6), (83, o_if_ge 91 86), (86, o_iload 88 8), (88, o_goto 93), (91, o_iload 93 6), (93, o_istore 95 6), (95, o_iload 97 8), (97, o_istore 99 7), (99, o_iinc 102 8 1), (102, o_goto 59), (105, o_iload 107 4), (107, o_if_ne 115 110), (110, o_iload 112 5), (112, o_goto 128), (115, o_iload 117 4), (117, o_const 118 1), (118, o_icmp_ne 126 121), (121, o_iload 123 6), (123, o_goto 128), (126, o_iload 128 7), (128, o_iret)]
set_option maxRecDepth 20000 in
theorem t_X9_open : ∀ q ∈ T_X9_open, zS k_X9_open q.1 q.2 := by
  unfold T_X9_open
  refine List.forall_mem_cons.mpr ⟨s_aload_n (j := 0) (by decide +kernel) rfl rfl, ?_⟩
  refine List.forall_mem_cons.mpr ⟨s_iload_n (j := 1) (by decide +kernel) rfl rfl, ?_⟩
  refine List.forall_mem_cons.mpr ⟨s_callv (idx := 200) (k' := k_X9_isWay) (T := TX9) (N := 54) rfl q5_133 q5_130 q5_132 qs_41 q1_10 de_X9_isWay (by decide) (by decide +kernel) rfl, ?_⟩
  refine List.forall_mem_cons.mpr ⟨s_if_eq (off := 32) (by decide +kernel) (by decide) rfl, ?_⟩
  refine List.forall_mem_cons.mpr ⟨s_aload_n (j := 0) (by decide +kernel) rfl rfl, ?_⟩
  refine List.forall_mem_cons.mpr ⟨s_iload_n (j := 2) (by decide +kernel) rfl rfl, ?_⟩
  refine List.forall_mem_cons.mpr ⟨s_callv (idx := 249) (k' := k_X9_isSt) (T := TX9) (N := 54) rfl q5_163 q5_160 q5_162 qs_43 q1_10 de_X9_isSt (by decide) (by decide +kernel) rfl, ?_⟩
  refine List.forall_mem_cons.mpr ⟨s_if_eq (off := 24) (by decide +kernel) (by decide) rfl, ?_⟩
  refine List.forall_mem_cons.mpr ⟨s_aload_n (j := 0) (by decide +kernel) rfl rfl, ?_⟩
  refine List.forall_mem_cons.mpr ⟨s_iload_n (j := 3) (by decide +kernel) rfl rfl, ?_⟩
  refine List.forall_mem_cons.mpr ⟨s_callv (idx := 252) (k' := k_X9_areWinds) (T := TX9) (N := 54) rfl q5_167 q5_164 q5_166 qs_44 q1_10 de_X9_areWinds (by decide) (by decide +kernel) rfl, ?_⟩
  refine List.forall_mem_cons.mpr ⟨s_if_eq (off := 16) (by decide +kernel) (by decide) rfl, ?_⟩
  refine List.forall_mem_cons.mpr ⟨s_iload (by decide +kernel) rfl, ?_⟩
  refine List.forall_mem_cons.mpr ⟨s_i2l (by decide +kernel) rfl, ?_⟩
  refine List.forall_mem_cons.mpr ⟨s_lconst (z := 0) (by decide +kernel) (by decide) rfl, ?_⟩
  refine List.forall_mem_cons.mpr ⟨s_ldc2 (idx := 255) (y := (2)) (by decide +kernel) q5_168 rfl, ?_⟩
  refine List.forall_mem_cons.mpr ⟨s_calls (idx := 5) (k' := k_X9_within) q5_50 q5_48 q5_49 q1_10 de_X9_within (by decide) (by decide +kernel) rfl, ?_⟩
  refine List.forall_mem_cons.mpr ⟨s_if_ne (off := 5) (by decide +kernel) (by decide) rfl, ?_⟩
  refine List.forall_mem_cons.mpr ⟨s_iconst (by decide +kernel) rfl, ?_⟩
  refine List.forall_mem_cons.mpr ⟨s_iret rfl (by decide +kernel), ?_⟩
  refine List.forall_mem_cons.mpr ⟨s_aload_n (j := 0) (by decide +kernel) rfl rfl, ?_⟩
  refine List.forall_mem_cons.mpr ⟨s_iload_n (j := 2) (by decide +kernel) rfl rfl, ?_⟩
  refine List.forall_mem_cons.mpr ⟨s_iload_n (j := 3) (by decide +kernel) rfl rfl, ?_⟩
  refine List.forall_mem_cons.mpr ⟨s_callv (idx := 238) (k' := k_X9_layOut) (T := TX9) (N := 54) rfl q5_172 q5_169 q5_171 qs_45 q1_10 de_X9_layOut (by decide) (by decide +kernel) rfl, ?_⟩
  refine List.forall_mem_cons.mpr ⟨s_iconst (by decide +kernel) rfl, ?_⟩
  refine List.forall_mem_cons.mpr ⟨s_istore (by decide +kernel) (by decide) rfl, ?_⟩
  refine List.forall_mem_cons.mpr ⟨s_bipush (by decide +kernel) (by decide) rfl, ?_⟩
  refine List.forall_mem_cons.mpr ⟨s_istore (by decide +kernel) (by decide) rfl, ?_⟩
  refine List.forall_mem_cons.mpr ⟨s_bipush (by decide +kernel) (by decide) rfl, ?_⟩
  refine List.forall_mem_cons.mpr ⟨s_istore (by decide +kernel) (by decide) rfl, ?_⟩
  refine List.forall_mem_cons.mpr ⟨s_iconst (by decide +kernel) rfl, ?_⟩
  refine List.forall_mem_cons.mpr ⟨s_istore (by decide +kernel) (by decide) rfl, ?_⟩
  refine List.forall_mem_cons.mpr ⟨s_iload (by decide +kernel) rfl, ?_⟩
  refine List.forall_mem_cons.mpr ⟨s_sipush (by decide +kernel) (by decide) rfl, ?_⟩
  refine List.forall_mem_cons.mpr ⟨s_icmp_ge (off := 41) (by decide +kernel) (by decide) rfl, ?_⟩
  refine List.forall_mem_cons.mpr ⟨s_aload_n (j := 0) (by decide +kernel) rfl rfl, ?_⟩
  refine List.forall_mem_cons.mpr ⟨s_iload_n (j := 1) (by decide +kernel) rfl rfl, ?_⟩
  refine List.forall_mem_cons.mpr ⟨s_iload (by decide +kernel) rfl, ?_⟩
  refine List.forall_mem_cons.mpr ⟨s_iconst (by decide +kernel) rfl, ?_⟩
  refine List.forall_mem_cons.mpr ⟨s_callv (idx := 234) (k' := k_X9_goes) (T := TX9) (N := 54) rfl q5_176 q5_173 q5_175 qs_46 q1_10 de_X9_goes (by decide) (by decide +kernel) rfl, ?_⟩
  refine List.forall_mem_cons.mpr ⟨s_if_eq (off := 24) (by decide +kernel) (by decide) rfl, ?_⟩
  refine List.forall_mem_cons.mpr ⟨s_iinc (by decide +kernel) (by decide) rfl, ?_⟩
  refine List.forall_mem_cons.mpr ⟨s_iload (by decide +kernel) rfl, ?_⟩
  refine List.forall_mem_cons.mpr ⟨s_if_ge (off := 8) (by decide +kernel) (by decide) rfl, ?_⟩
  refine List.forall_mem_cons.mpr ⟨s_iload (by decide +kernel) rfl, ?_⟩
  refine List.forall_mem_cons.mpr ⟨s_goto (off := 5) (by decide +kernel) (by decide), ?_⟩
  refine List.forall_mem_cons.mpr ⟨s_iload (by decide +kernel) rfl, ?_⟩
  refine List.forall_mem_cons.mpr ⟨s_istore (by decide +kernel) (by decide) rfl, ?_⟩
  refine List.forall_mem_cons.mpr ⟨s_iload (by decide +kernel) rfl, ?_⟩
  refine List.forall_mem_cons.mpr ⟨s_istore (by decide +kernel) (by decide) rfl, ?_⟩
  refine List.forall_mem_cons.mpr ⟨s_iinc (by decide +kernel) (by decide) rfl, ?_⟩
  refine List.forall_mem_cons.mpr ⟨s_goto (off := (-43)) (by decide +kernel) (by decide), ?_⟩
  refine List.forall_mem_cons.mpr ⟨s_iload (by decide +kernel) rfl, ?_⟩
  refine List.forall_mem_cons.mpr ⟨s_if_ne (off := 8) (by decide +kernel) (by decide) rfl, ?_⟩
  refine List.forall_mem_cons.mpr ⟨s_iload (by decide +kernel) rfl, ?_⟩
  refine List.forall_mem_cons.mpr ⟨s_goto (off := 16) (by decide +kernel) (by decide), ?_⟩
  refine List.forall_mem_cons.mpr ⟨s_iload (by decide +kernel) rfl, ?_⟩
  refine List.forall_mem_cons.mpr ⟨s_iconst (by decide +kernel) rfl, ?_⟩
  refine List.forall_mem_cons.mpr ⟨s_icmp_ne (off := 8) (by decide +kernel) (by decide) rfl, ?_⟩
  refine List.forall_mem_cons.mpr ⟨s_iload (by decide +kernel) rfl, ?_⟩
  refine List.forall_mem_cons.mpr ⟨s_goto (off := 5) (by decide +kernel) (by decide), ?_⟩
  refine List.forall_mem_cons.mpr ⟨s_iload (by decide +kernel) rfl, ?_⟩
  refine List.forall_mem_cons.mpr ⟨s_iret rfl (by decide +kernel), ?_⟩
  exact fun q hq => absurd hq List.not_mem_nil
def T_X9_soon : List (Nat × zO) := [(0, o_aload 1 0), (1, o_iload 2 1), (2, o_callv 1 9 k_X9_isFrom 5), (5, o_if_eq 33 8), (8, o_aload 9 0), (9, o_iload 10 2), (10, o_callv 1 9 k_X9_isPlace 13), (13, o_if_eq 33 16), (16, o_aload 17 0), (17, o_iload 18 3), (18, o_callv 1 9 k_X9_isSt 21), (21, o_if_eq 33 24), (24, o_aload 25 0), (25, o_iload 27 4), (27, o_callv 1 9 k_X9_areWinds 30), (30, o_if_ne 35 33), (33, o_const 34 (-1)), (34, o_iret), (35, o_aload 36 0), (36, o_iload 37 1), (37, o_iload 38 3), (38, o_iload 40 4), (40, o_callv 3 9 k_X9_reach 43), (43, o_aload 44 0), (44, o_iload 45 2), (45, o_callv 1 9 k_X9_soonAt 48), (48, o_iret)]
set_option maxRecDepth 20000 in
theorem t_X9_soon : ∀ q ∈ T_X9_soon, zS k_X9_soon q.1 q.2 := by
  unfold T_X9_soon
  refine List.forall_mem_cons.mpr ⟨s_aload_n (j := 0) (by decide +kernel) rfl rfl, ?_⟩
  refine List.forall_mem_cons.mpr ⟨s_iload_n (j := 1) (by decide +kernel) rfl rfl, ?_⟩
  refine List.forall_mem_cons.mpr ⟨s_callv (idx := 257) (k' := k_X9_isFrom) (T := TX9) (N := 54) rfl q5_184 q5_181 q5_183 qs_47 q1_10 de_X9_isFrom (by decide) (by decide +kernel) rfl, ?_⟩
  refine List.forall_mem_cons.mpr ⟨s_if_eq (off := 28) (by decide +kernel) (by decide) rfl, ?_⟩
  refine List.forall_mem_cons.mpr ⟨s_aload_n (j := 0) (by decide +kernel) rfl rfl, ?_⟩
  refine List.forall_mem_cons.mpr ⟨s_iload_n (j := 2) (by decide +kernel) rfl rfl, ?_⟩
  refine List.forall_mem_cons.mpr ⟨s_callv (idx := 189) (k' := k_X9_isPlace) (T := TX9) (N := 54) rfl q5_116 q5_113 q5_115 qs_39 q1_10 de_X9_isPlace (by decide) (by decide +kernel) rfl, ?_⟩
  refine List.forall_mem_cons.mpr ⟨s_if_eq (off := 20) (by decide +kernel) (by decide) rfl, ?_⟩
  refine List.forall_mem_cons.mpr ⟨s_aload_n (j := 0) (by decide +kernel) rfl rfl, ?_⟩
  refine List.forall_mem_cons.mpr ⟨s_iload_n (j := 3) (by decide +kernel) rfl rfl, ?_⟩
  refine List.forall_mem_cons.mpr ⟨s_callv (idx := 249) (k' := k_X9_isSt) (T := TX9) (N := 54) rfl q5_163 q5_160 q5_162 qs_43 q1_10 de_X9_isSt (by decide) (by decide +kernel) rfl, ?_⟩
  refine List.forall_mem_cons.mpr ⟨s_if_eq (off := 12) (by decide +kernel) (by decide) rfl, ?_⟩
  refine List.forall_mem_cons.mpr ⟨s_aload_n (j := 0) (by decide +kernel) rfl rfl, ?_⟩
  refine List.forall_mem_cons.mpr ⟨s_iload (by decide +kernel) rfl, ?_⟩
  refine List.forall_mem_cons.mpr ⟨s_callv (idx := 252) (k' := k_X9_areWinds) (T := TX9) (N := 54) rfl q5_167 q5_164 q5_166 qs_44 q1_10 de_X9_areWinds (by decide) (by decide +kernel) rfl, ?_⟩
  refine List.forall_mem_cons.mpr ⟨s_if_ne (off := 5) (by decide +kernel) (by decide) rfl, ?_⟩
  refine List.forall_mem_cons.mpr ⟨s_iconst (by decide +kernel) rfl, ?_⟩
  refine List.forall_mem_cons.mpr ⟨s_iret rfl (by decide +kernel), ?_⟩
  refine List.forall_mem_cons.mpr ⟨s_aload_n (j := 0) (by decide +kernel) rfl rfl, ?_⟩
  refine List.forall_mem_cons.mpr ⟨s_iload_n (j := 1) (by decide +kernel) rfl rfl, ?_⟩
  refine List.forall_mem_cons.mpr ⟨s_iload_n (j := 3) (by decide +kernel) rfl rfl, ?_⟩
  refine List.forall_mem_cons.mpr ⟨s_iload (by decide +kernel) rfl, ?_⟩
  refine List.forall_mem_cons.mpr ⟨s_callv (idx := 260) (k' := k_X9_reach) (T := TX9) (N := 54) rfl q5_188 q5_185 q5_187 qs_48 q1_10 de_X9_reach (by decide) (by decide +kernel) rfl, ?_⟩
  refine List.forall_mem_cons.mpr ⟨s_aload_n (j := 0) (by decide +kernel) rfl rfl, ?_⟩
  refine List.forall_mem_cons.mpr ⟨s_iload_n (j := 2) (by decide +kernel) rfl rfl, ?_⟩
  refine List.forall_mem_cons.mpr ⟨s_callv (idx := 263) (k' := k_X9_soonAt) (T := TX9) (N := 54) rfl q5_207 q5_204 q5_206 qs_52 q1_10 de_X9_soonAt (by decide) (by decide +kernel) rfl, ?_⟩
  refine List.forall_mem_cons.mpr ⟨s_iret rfl (by decide +kernel), ?_⟩
  exact fun q hq => absurd hq List.not_mem_nil
def T_X9_goBack : List (Nat × zO) := [(0, o_aload 1 0), (1, o_iload 2 2), (2, o_iload 3 3), (3, o_callv 2 9 k_X9_layOut 6), (6, o_const 7 0), (7, o_istore 9 4), (9, o_iload 11 4), (11, o_aload 12 0), (12, o_getf 15 9 20), (15, o_const 18 1440), (18, o_imul 19), (19, o_const 20 4), (20, o_imul 21), (21, o_icmp_ge 38 24), (24, o_aload 25 0), (25, o_getf 28 9 35), (28, o_iload 30 4), (30, o_const 31 0), (31, o_bast 32), (32, o_iinc 35 4 1), (35, o_goto 9), (38, o_aload 39 0), (39, o_getf 42 9 26), (42, o_istore 44 4), (44, o_iload 46 4), (46, o_if_lt 126 49), (49, o_const 50 0), (50, o_istore 52 5), (52, o_iload 54 5), (54, o_aload 55 0), (55, o_getf 58 9 20), (58, o_icmp_ge 120 61), (61, o_const 62 0), (62, o_istore 64 6), (64, o_iload 66 6), (66, o_const 67 4), (67, o_icmp_ge 114 70), (70, o_aload 71 0), (71, o_getf 74 9 35), (74, o_iload 76 5), (76, o_iload 78 4), (78, o_iload 80 6), (80, o_calls 3 k_X9_stateOf 83), (83, o_iload 85 5), (85, o_iload 86 1), (86, o_icmp_eq 102 89), (89, o_aload 90 0), (90, o_iload 92 5), (92, o_iload 94 4), (94, o_iload 96 6), (96, o_callv 3 9 k_X9_comesFrom 99), (99, o_if_eq 106 102), (102, o_const 103 1), (103, o_goto 107), (106, o_const 107 0), (107, o_bast 108), (108, o_iinc 111 6 1), (111, o_goto 64), (114, o_iinc 117 5 1), (117, o_goto 52), (120, o_iinc 123 4 (-1)), (123, o_goto 44), (126, o_vret)]
set_option maxRecDepth 20000 in
theorem t_X9_goBack : ∀ q ∈ T_X9_goBack, zS k_X9_goBack q.1 q.2 := by
  unfold T_X9_goBack
  refine List.forall_mem_cons.mpr ⟨s_aload_n (j := 0) (by decide +kernel) rfl rfl, ?_⟩
  refine List.forall_mem_cons.mpr ⟨s_iload_n (j := 2) (by decide +kernel) rfl rfl, ?_⟩
  refine List.forall_mem_cons.mpr ⟨s_iload_n (j := 3) (by decide +kernel) rfl rfl, ?_⟩
  refine List.forall_mem_cons.mpr ⟨s_callv (idx := 238) (k' := k_X9_layOut) (T := TX9) (N := 54) rfl q5_172 q5_169 q5_171 qs_45 q1_10 de_X9_layOut (by decide) (by decide +kernel) rfl, ?_⟩
  refine List.forall_mem_cons.mpr ⟨s_iconst (by decide +kernel) rfl, ?_⟩
  refine List.forall_mem_cons.mpr ⟨s_istore (by decide +kernel) (by decide) rfl, ?_⟩
  refine List.forall_mem_cons.mpr ⟨s_iload (by decide +kernel) rfl, ?_⟩
  refine List.forall_mem_cons.mpr ⟨s_aload_n (j := 0) (by decide +kernel) rfl rfl, ?_⟩
  refine List.forall_mem_cons.mpr ⟨s_getf (idx := 181) (C := RX9) (T := TX9) (N := 54) rfl inX9 (by decide) q4_131 (by decide +kernel) rfl, ?_⟩
  refine List.forall_mem_cons.mpr ⟨s_sipush (by decide +kernel) (by decide) rfl, ?_⟩
  refine List.forall_mem_cons.mpr ⟨s_imul (by decide +kernel) rfl, ?_⟩
  refine List.forall_mem_cons.mpr ⟨s_iconst (by decide +kernel) rfl, ?_⟩
  refine List.forall_mem_cons.mpr ⟨s_imul (by decide +kernel) rfl, ?_⟩
  refine List.forall_mem_cons.mpr ⟨s_icmp_ge (off := 17) (by decide +kernel) (by decide) rfl, ?_⟩
  refine List.forall_mem_cons.mpr ⟨s_aload_n (j := 0) (by decide +kernel) rfl rfl, ?_⟩
  refine List.forall_mem_cons.mpr ⟨s_getf (idx := 86) (C := RX9) (T := TX9) (N := 54) rfl inX9 (by decide) q4_146 (by decide +kernel) rfl, ?_⟩
  refine List.forall_mem_cons.mpr ⟨s_iload (by decide +kernel) rfl, ?_⟩
  refine List.forall_mem_cons.mpr ⟨s_iconst (by decide +kernel) rfl, ?_⟩
  refine List.forall_mem_cons.mpr ⟨s_bast (by decide +kernel) rfl, ?_⟩
  refine List.forall_mem_cons.mpr ⟨s_iinc (by decide +kernel) (by decide) rfl, ?_⟩
  refine List.forall_mem_cons.mpr ⟨s_goto (off := (-26)) (by decide +kernel) (by decide), ?_⟩
  refine List.forall_mem_cons.mpr ⟨s_aload_n (j := 0) (by decide +kernel) rfl rfl, ?_⟩
  refine List.forall_mem_cons.mpr ⟨s_getf (idx := 120) (C := RX9) (T := TX9) (N := 54) rfl inX9 (by decide) q4_137 (by decide +kernel) rfl, ?_⟩
  refine List.forall_mem_cons.mpr ⟨s_istore (by decide +kernel) (by decide) rfl, ?_⟩
  refine List.forall_mem_cons.mpr ⟨s_iload (by decide +kernel) rfl, ?_⟩
  refine List.forall_mem_cons.mpr ⟨s_if_lt (off := 80) (by decide +kernel) (by decide) rfl, ?_⟩
  refine List.forall_mem_cons.mpr ⟨s_iconst (by decide +kernel) rfl, ?_⟩
  refine List.forall_mem_cons.mpr ⟨s_istore (by decide +kernel) (by decide) rfl, ?_⟩
  refine List.forall_mem_cons.mpr ⟨s_iload (by decide +kernel) rfl, ?_⟩
  refine List.forall_mem_cons.mpr ⟨s_aload_n (j := 0) (by decide +kernel) rfl rfl, ?_⟩
  refine List.forall_mem_cons.mpr ⟨s_getf (idx := 181) (C := RX9) (T := TX9) (N := 54) rfl inX9 (by decide) q4_131 (by decide +kernel) rfl, ?_⟩
  refine List.forall_mem_cons.mpr ⟨s_icmp_ge (off := 62) (by decide +kernel) (by decide) rfl, ?_⟩
  refine List.forall_mem_cons.mpr ⟨s_iconst (by decide +kernel) rfl, ?_⟩
  refine List.forall_mem_cons.mpr ⟨s_istore (by decide +kernel) (by decide) rfl, ?_⟩
  refine List.forall_mem_cons.mpr ⟨s_iload (by decide +kernel) rfl, ?_⟩
  refine List.forall_mem_cons.mpr ⟨s_iconst (by decide +kernel) rfl, ?_⟩
  refine List.forall_mem_cons.mpr ⟨s_icmp_ge (off := 47) (by decide +kernel) (by decide) rfl, ?_⟩
  refine List.forall_mem_cons.mpr ⟨s_aload_n (j := 0) (by decide +kernel) rfl rfl, ?_⟩
  refine List.forall_mem_cons.mpr ⟨s_getf (idx := 86) (C := RX9) (T := TX9) (N := 54) rfl inX9 (by decide) q4_146 (by decide +kernel) rfl, ?_⟩
  refine List.forall_mem_cons.mpr ⟨s_iload (by decide +kernel) rfl, ?_⟩
  refine List.forall_mem_cons.mpr ⟨s_iload (by decide +kernel) rfl, ?_⟩
  refine List.forall_mem_cons.mpr ⟨s_iload (by decide +kernel) rfl, ?_⟩
  refine List.forall_mem_cons.mpr ⟨s_calls (idx := 228) (k' := k_X9_stateOf) q5_191 q5_189 q5_190 q1_10 de_X9_stateOf (by decide) (by decide +kernel) rfl, ?_⟩
  refine List.forall_mem_cons.mpr ⟨s_iload (by decide +kernel) rfl, ?_⟩
  refine List.forall_mem_cons.mpr ⟨s_iload_n (j := 1) (by decide +kernel) rfl rfl, ?_⟩
  refine List.forall_mem_cons.mpr ⟨s_icmp_eq (off := 16) (by decide +kernel) (by decide) rfl, ?_⟩
  refine List.forall_mem_cons.mpr ⟨s_aload_n (j := 0) (by decide +kernel) rfl rfl, ?_⟩
  refine List.forall_mem_cons.mpr ⟨s_iload (by decide +kernel) rfl, ?_⟩
  refine List.forall_mem_cons.mpr ⟨s_iload (by decide +kernel) rfl, ?_⟩
  refine List.forall_mem_cons.mpr ⟨s_iload (by decide +kernel) rfl, ?_⟩
  refine List.forall_mem_cons.mpr ⟨s_callv (idx := 267) (k' := k_X9_comesFrom) (T := TX9) (N := 54) rfl q5_227 q5_224 q5_226 qs_56 q1_10 de_X9_comesFrom (by decide) (by decide +kernel) rfl, ?_⟩
  refine List.forall_mem_cons.mpr ⟨s_if_eq (off := 7) (by decide +kernel) (by decide) rfl, ?_⟩
  refine List.forall_mem_cons.mpr ⟨s_iconst (by decide +kernel) rfl, ?_⟩
  refine List.forall_mem_cons.mpr ⟨s_goto (off := 4) (by decide +kernel) (by decide), ?_⟩
  refine List.forall_mem_cons.mpr ⟨s_iconst (by decide +kernel) rfl, ?_⟩
  refine List.forall_mem_cons.mpr ⟨s_bast (by decide +kernel) rfl, ?_⟩
  refine List.forall_mem_cons.mpr ⟨s_iinc (by decide +kernel) (by decide) rfl, ?_⟩
  refine List.forall_mem_cons.mpr ⟨s_goto (off := (-47)) (by decide +kernel) (by decide), ?_⟩
  refine List.forall_mem_cons.mpr ⟨s_iinc (by decide +kernel) (by decide) rfl, ?_⟩
  refine List.forall_mem_cons.mpr ⟨s_goto (off := (-65)) (by decide +kernel) (by decide), ?_⟩
  refine List.forall_mem_cons.mpr ⟨s_iinc (by decide +kernel) (by decide) rfl, ?_⟩
  refine List.forall_mem_cons.mpr ⟨s_goto (off := (-79)) (by decide +kernel) (by decide), ?_⟩
  refine List.forall_mem_cons.mpr ⟨s_vret rfl (by decide +kernel), ?_⟩
  exact fun q hq => absurd hq List.not_mem_nil
def T_X9_comesFrom : List (Nat × zO) := [(0, o_iload 1 2), (1, o_aload 2 0), (2, o_getf 5 9 26), (5, o_icmp_ge 35 8), (8, o_aload 9 0), (9, o_iload 10 1), (10, o_iload 11 2), (11, o_callv 2 9 k_X9_waits 14), (14, o_if_eq 35 17), (17, o_aload 18 0), (18, o_getf 21 9 35), (21, o_iload 22 1), (22, o_iload 23 2), (23, o_const 24 1), (24, o_iadd 25), (25, o_iload 26 3), (26, o_calls 3 k_X9_stateOf 29), (29, o_bald 30), (30, o_if_eq 35 33), (33, o_const 34 1), (34, o_zret), (35, o_iload 36 3), (36, o_const 37 3), (37, o_icmp_ge 46 40), (40, o_iload 41 3), (41, o_const 42 1), (42, o_iadd 43), (43, o_goto 47), (46, o_iload 47 3), (47, o_istore 49 4), (49, o_const 50 0), (50, o_istore 52 5), (52, o_iload 54 5), (54, o_aload 55 0), (55, o_getf 58 9 21), (58, o_icmp_ge 135 61), (61, o_aload 62 0), (62, o_iload 64 5), (64, o_iload 65 1), (65, o_callv 2 9 k_X9_otherEnd 68), (68, o_istore 70 6), (70, o_iload 71 2), (71, o_aload 72 0), (72, o_iload 74 5), (74, o_aload 75 0), (75, o_getf 78 9 27), (78, o_iload 79 3), (79, o_callv 3 9 k_X9_takesOf 82), (82, o_iadd 83), (83, o_istore 85 7), (85, o_iload 87 6), (87, o_if_lt 129 90), (90, o_iload 92 7), (92, o_aload 93 0), (93, o_getf 96 9 26), (96, o_icmp_gt 129 99), (99, o_aload 100 0), (100, o_iload 102 5), (102, o_iload 103 2), (103, o_iload 104 3), (104, o_callv 3 9 k_X9_goes 107), (107, o_if_eq 129 110), (110, o_aload 111 0), (111, o_getf 114 9 35), (114, o_iload 116 6), (116, o_iload 118 7), (118, o_iload 120 4), (120, o_calls 3 k_X9_stateOf 123), (123, o_bald 124), (124, o_if_eq 129 127), (127, o_const 128 1), (128, o_zret), (129, o_iinc 132 5 1), (132, o_goto 52), (135, o_const 136 0), (136, o_zret)]
set_option maxRecDepth 20000 in
theorem t_X9_comesFrom : ∀ q ∈ T_X9_comesFrom, zS k_X9_comesFrom q.1 q.2 := by
  unfold T_X9_comesFrom
  refine List.forall_mem_cons.mpr ⟨s_iload_n (j := 2) (by decide +kernel) rfl rfl, ?_⟩
  refine List.forall_mem_cons.mpr ⟨s_aload_n (j := 0) (by decide +kernel) rfl rfl, ?_⟩
  refine List.forall_mem_cons.mpr ⟨s_getf (idx := 120) (C := RX9) (T := TX9) (N := 54) rfl inX9 (by decide) q4_137 (by decide +kernel) rfl, ?_⟩
  refine List.forall_mem_cons.mpr ⟨s_icmp_ge (off := 30) (by decide +kernel) (by decide) rfl, ?_⟩
  refine List.forall_mem_cons.mpr ⟨s_aload_n (j := 0) (by decide +kernel) rfl rfl, ?_⟩
  refine List.forall_mem_cons.mpr ⟨s_iload_n (j := 1) (by decide +kernel) rfl rfl, ?_⟩
  refine List.forall_mem_cons.mpr ⟨s_iload_n (j := 2) (by decide +kernel) rfl rfl, ?_⟩
  refine List.forall_mem_cons.mpr ⟨s_callv (idx := 224) (k' := k_X9_waits) (T := TX9) (N := 54) rfl q5_199 q5_196 q5_198 qs_50 q1_10 de_X9_waits (by decide) (by decide +kernel) rfl, ?_⟩
  refine List.forall_mem_cons.mpr ⟨s_if_eq (off := 21) (by decide +kernel) (by decide) rfl, ?_⟩
  refine List.forall_mem_cons.mpr ⟨s_aload_n (j := 0) (by decide +kernel) rfl rfl, ?_⟩
  refine List.forall_mem_cons.mpr ⟨s_getf (idx := 86) (C := RX9) (T := TX9) (N := 54) rfl inX9 (by decide) q4_146 (by decide +kernel) rfl, ?_⟩
  refine List.forall_mem_cons.mpr ⟨s_iload_n (j := 1) (by decide +kernel) rfl rfl, ?_⟩
  refine List.forall_mem_cons.mpr ⟨s_iload_n (j := 2) (by decide +kernel) rfl rfl, ?_⟩
  refine List.forall_mem_cons.mpr ⟨s_iconst (by decide +kernel) rfl, ?_⟩
  refine List.forall_mem_cons.mpr ⟨s_iadd (by decide +kernel) rfl, ?_⟩
  refine List.forall_mem_cons.mpr ⟨s_iload_n (j := 3) (by decide +kernel) rfl rfl, ?_⟩
  refine List.forall_mem_cons.mpr ⟨s_calls (idx := 228) (k' := k_X9_stateOf) q5_191 q5_189 q5_190 q1_10 de_X9_stateOf (by decide) (by decide +kernel) rfl, ?_⟩
  refine List.forall_mem_cons.mpr ⟨s_bald (by decide +kernel) rfl, ?_⟩
  refine List.forall_mem_cons.mpr ⟨s_if_eq (off := 5) (by decide +kernel) (by decide) rfl, ?_⟩
  refine List.forall_mem_cons.mpr ⟨s_iconst (by decide +kernel) rfl, ?_⟩
  refine List.forall_mem_cons.mpr ⟨s_zret rfl (by decide +kernel), ?_⟩
  refine List.forall_mem_cons.mpr ⟨s_iload_n (j := 3) (by decide +kernel) rfl rfl, ?_⟩
  refine List.forall_mem_cons.mpr ⟨s_iconst (by decide +kernel) rfl, ?_⟩
  refine List.forall_mem_cons.mpr ⟨s_icmp_ge (off := 9) (by decide +kernel) (by decide) rfl, ?_⟩
  refine List.forall_mem_cons.mpr ⟨s_iload_n (j := 3) (by decide +kernel) rfl rfl, ?_⟩
  refine List.forall_mem_cons.mpr ⟨s_iconst (by decide +kernel) rfl, ?_⟩
  refine List.forall_mem_cons.mpr ⟨s_iadd (by decide +kernel) rfl, ?_⟩
  refine List.forall_mem_cons.mpr ⟨s_goto (off := 4) (by decide +kernel) (by decide), ?_⟩
  refine List.forall_mem_cons.mpr ⟨s_iload_n (j := 3) (by decide +kernel) rfl rfl, ?_⟩
  refine List.forall_mem_cons.mpr ⟨s_istore (by decide +kernel) (by decide) rfl, ?_⟩
  refine List.forall_mem_cons.mpr ⟨s_iconst (by decide +kernel) rfl, ?_⟩
  refine List.forall_mem_cons.mpr ⟨s_istore (by decide +kernel) (by decide) rfl, ?_⟩
  refine List.forall_mem_cons.mpr ⟨s_iload (by decide +kernel) rfl, ?_⟩
  refine List.forall_mem_cons.mpr ⟨s_aload_n (j := 0) (by decide +kernel) rfl rfl, ?_⟩
  refine List.forall_mem_cons.mpr ⟨s_getf (idx := 184) (C := RX9) (T := TX9) (N := 54) rfl inX9 (by decide) q4_132 (by decide +kernel) rfl, ?_⟩
  refine List.forall_mem_cons.mpr ⟨s_icmp_ge (off := 77) (by decide +kernel) (by decide) rfl, ?_⟩
  refine List.forall_mem_cons.mpr ⟨s_aload_n (j := 0) (by decide +kernel) rfl rfl, ?_⟩
  refine List.forall_mem_cons.mpr ⟨s_iload (by decide +kernel) rfl, ?_⟩
  refine List.forall_mem_cons.mpr ⟨s_iload_n (j := 1) (by decide +kernel) rfl rfl, ?_⟩
  refine List.forall_mem_cons.mpr ⟨s_callv (idx := 231) (k' := k_X9_otherEnd) (T := TX9) (N := 54) rfl q5_203 q5_200 q5_202 qs_51 q1_10 de_X9_otherEnd (by decide) (by decide +kernel) rfl, ?_⟩
  refine List.forall_mem_cons.mpr ⟨s_istore (by decide +kernel) (by decide) rfl, ?_⟩
  refine List.forall_mem_cons.mpr ⟨s_iload_n (j := 2) (by decide +kernel) rfl rfl, ?_⟩
  refine List.forall_mem_cons.mpr ⟨s_aload_n (j := 0) (by decide +kernel) rfl rfl, ?_⟩
  refine List.forall_mem_cons.mpr ⟨s_iload (by decide +kernel) rfl, ?_⟩
  refine List.forall_mem_cons.mpr ⟨s_aload_n (j := 0) (by decide +kernel) rfl rfl, ?_⟩
  refine List.forall_mem_cons.mpr ⟨s_getf (idx := 218) (C := RX9) (T := TX9) (N := 54) rfl inX9 (by decide) q4_138 (by decide +kernel) rfl, ?_⟩
  refine List.forall_mem_cons.mpr ⟨s_iload_n (j := 3) (by decide +kernel) rfl rfl, ?_⟩
  refine List.forall_mem_cons.mpr ⟨s_callv (idx := 215) (k' := k_X9_takesOf) (T := TX9) (N := 54) rfl q5_155 q5_152 q5_154 qs_42 q1_10 de_X9_takesOf (by decide) (by decide +kernel) rfl, ?_⟩
  refine List.forall_mem_cons.mpr ⟨s_iadd (by decide +kernel) rfl, ?_⟩
  refine List.forall_mem_cons.mpr ⟨s_istore (by decide +kernel) (by decide) rfl, ?_⟩
  refine List.forall_mem_cons.mpr ⟨s_iload (by decide +kernel) rfl, ?_⟩
  refine List.forall_mem_cons.mpr ⟨s_if_lt (off := 42) (by decide +kernel) (by decide) rfl, ?_⟩
  refine List.forall_mem_cons.mpr ⟨s_iload (by decide +kernel) rfl, ?_⟩
  refine List.forall_mem_cons.mpr ⟨s_aload_n (j := 0) (by decide +kernel) rfl rfl, ?_⟩
  refine List.forall_mem_cons.mpr ⟨s_getf (idx := 120) (C := RX9) (T := TX9) (N := 54) rfl inX9 (by decide) q4_137 (by decide +kernel) rfl, ?_⟩
  refine List.forall_mem_cons.mpr ⟨s_icmp_gt (off := 33) (by decide +kernel) (by decide) rfl, ?_⟩
  refine List.forall_mem_cons.mpr ⟨s_aload_n (j := 0) (by decide +kernel) rfl rfl, ?_⟩
  refine List.forall_mem_cons.mpr ⟨s_iload (by decide +kernel) rfl, ?_⟩
  refine List.forall_mem_cons.mpr ⟨s_iload_n (j := 2) (by decide +kernel) rfl rfl, ?_⟩
  refine List.forall_mem_cons.mpr ⟨s_iload_n (j := 3) (by decide +kernel) rfl rfl, ?_⟩
  refine List.forall_mem_cons.mpr ⟨s_callv (idx := 234) (k' := k_X9_goes) (T := TX9) (N := 54) rfl q5_176 q5_173 q5_175 qs_46 q1_10 de_X9_goes (by decide) (by decide +kernel) rfl, ?_⟩
  refine List.forall_mem_cons.mpr ⟨s_if_eq (off := 22) (by decide +kernel) (by decide) rfl, ?_⟩
  refine List.forall_mem_cons.mpr ⟨s_aload_n (j := 0) (by decide +kernel) rfl rfl, ?_⟩
  refine List.forall_mem_cons.mpr ⟨s_getf (idx := 86) (C := RX9) (T := TX9) (N := 54) rfl inX9 (by decide) q4_146 (by decide +kernel) rfl, ?_⟩
  refine List.forall_mem_cons.mpr ⟨s_iload (by decide +kernel) rfl, ?_⟩
  refine List.forall_mem_cons.mpr ⟨s_iload (by decide +kernel) rfl, ?_⟩
  refine List.forall_mem_cons.mpr ⟨s_iload (by decide +kernel) rfl, ?_⟩
  refine List.forall_mem_cons.mpr ⟨s_calls (idx := 228) (k' := k_X9_stateOf) q5_191 q5_189 q5_190 q1_10 de_X9_stateOf (by decide) (by decide +kernel) rfl, ?_⟩
  refine List.forall_mem_cons.mpr ⟨s_bald (by decide +kernel) rfl, ?_⟩
  refine List.forall_mem_cons.mpr ⟨s_if_eq (off := 5) (by decide +kernel) (by decide) rfl, ?_⟩
  refine List.forall_mem_cons.mpr ⟨s_iconst (by decide +kernel) rfl, ?_⟩
  refine List.forall_mem_cons.mpr ⟨s_zret rfl (by decide +kernel), ?_⟩
  refine List.forall_mem_cons.mpr ⟨s_iinc (by decide +kernel) (by decide) rfl, ?_⟩
  refine List.forall_mem_cons.mpr ⟨s_goto (off := (-80)) (by decide +kernel) (by decide), ?_⟩
  refine List.forall_mem_cons.mpr ⟨s_iconst (by decide +kernel) rfl, ?_⟩
  refine List.forall_mem_cons.mpr ⟨s_zret rfl (by decide +kernel), ?_⟩
  exact fun q hq => absurd hq List.not_mem_nil
def T_X9_lastFrom : List (Nat × zO) := [(0, o_aload 1 0), (1, o_iload 2 1), (2, o_const 4 100), (4, o_irem 5), (5, o_iload 6 2), (6, o_iload 7 3), (7, o_callv 3 9 k_X9_goBack 10), (10, o_aload 11 0), (11, o_getf 14 9 26), (14, o_istore 16 4), (16, o_iload 18 4), (18, o_aload 19 0), (19, o_getf 22 9 25), (22, o_icmp_lt 52 25), (25, o_aload 26 0), (26, o_getf 29 9 35), (29, o_iload 30 1), (30, o_const 32 100), (32, o_idiv 33), (33, o_iload 35 4), (35, o_const 36 0), (36, o_calls 3 k_X9_stateOf 39), (39, o_bald 40), (40, o_if_eq 46 43), (43, o_iload 45 4), (45, o_iret), (46, o_iinc 49 4 (-1)), (49, o_goto 16), (52, o_const 54 (-2)), (54, o_iret)]
set_option maxRecDepth 20000 in
theorem t_X9_lastFrom : ∀ q ∈ T_X9_lastFrom, zS k_X9_lastFrom q.1 q.2 := by
  unfold T_X9_lastFrom
  refine List.forall_mem_cons.mpr ⟨s_aload_n (j := 0) (by decide +kernel) rfl rfl, ?_⟩
  refine List.forall_mem_cons.mpr ⟨s_iload_n (j := 1) (by decide +kernel) rfl rfl, ?_⟩
  refine List.forall_mem_cons.mpr ⟨s_bipush (by decide +kernel) (by decide) rfl, ?_⟩
  refine List.forall_mem_cons.mpr ⟨s_irem (by decide +kernel) rfl, ?_⟩
  refine List.forall_mem_cons.mpr ⟨s_iload_n (j := 2) (by decide +kernel) rfl rfl, ?_⟩
  refine List.forall_mem_cons.mpr ⟨s_iload_n (j := 3) (by decide +kernel) rfl rfl, ?_⟩
  refine List.forall_mem_cons.mpr ⟨s_callv (idx := 270) (k' := k_X9_goBack) (T := TX9) (N := 54) rfl q5_223 q5_220 q5_222 qs_55 q1_10 de_X9_goBack (by decide) (by decide +kernel) rfl, ?_⟩
  refine List.forall_mem_cons.mpr ⟨s_aload_n (j := 0) (by decide +kernel) rfl rfl, ?_⟩
  refine List.forall_mem_cons.mpr ⟨s_getf (idx := 120) (C := RX9) (T := TX9) (N := 54) rfl inX9 (by decide) q4_137 (by decide +kernel) rfl, ?_⟩
  refine List.forall_mem_cons.mpr ⟨s_istore (by decide +kernel) (by decide) rfl, ?_⟩
  refine List.forall_mem_cons.mpr ⟨s_iload (by decide +kernel) rfl, ?_⟩
  refine List.forall_mem_cons.mpr ⟨s_aload_n (j := 0) (by decide +kernel) rfl rfl, ?_⟩
  refine List.forall_mem_cons.mpr ⟨s_getf (idx := 212) (C := RX9) (T := TX9) (N := 54) rfl inX9 (by decide) q4_136 (by decide +kernel) rfl, ?_⟩
  refine List.forall_mem_cons.mpr ⟨s_icmp_lt (off := 30) (by decide +kernel) (by decide) rfl, ?_⟩
  refine List.forall_mem_cons.mpr ⟨s_aload_n (j := 0) (by decide +kernel) rfl rfl, ?_⟩
  refine List.forall_mem_cons.mpr ⟨s_getf (idx := 86) (C := RX9) (T := TX9) (N := 54) rfl inX9 (by decide) q4_146 (by decide +kernel) rfl, ?_⟩
  refine List.forall_mem_cons.mpr ⟨s_iload_n (j := 1) (by decide +kernel) rfl rfl, ?_⟩
  refine List.forall_mem_cons.mpr ⟨s_bipush (by decide +kernel) (by decide) rfl, ?_⟩
  refine List.forall_mem_cons.mpr ⟨s_idiv (by decide +kernel) rfl, ?_⟩
  refine List.forall_mem_cons.mpr ⟨s_iload (by decide +kernel) rfl, ?_⟩
  refine List.forall_mem_cons.mpr ⟨s_iconst (by decide +kernel) rfl, ?_⟩
  refine List.forall_mem_cons.mpr ⟨s_calls (idx := 228) (k' := k_X9_stateOf) q5_191 q5_189 q5_190 q1_10 de_X9_stateOf (by decide) (by decide +kernel) rfl, ?_⟩
  refine List.forall_mem_cons.mpr ⟨s_bald (by decide +kernel) rfl, ?_⟩
  refine List.forall_mem_cons.mpr ⟨s_if_eq (off := 6) (by decide +kernel) (by decide) rfl, ?_⟩
  refine List.forall_mem_cons.mpr ⟨s_iload (by decide +kernel) rfl, ?_⟩
  refine List.forall_mem_cons.mpr ⟨s_iret rfl (by decide +kernel), ?_⟩
  refine List.forall_mem_cons.mpr ⟨s_iinc (by decide +kernel) (by decide) rfl, ?_⟩
  refine List.forall_mem_cons.mpr ⟨s_goto (off := (-33)) (by decide +kernel) (by decide), ?_⟩
  refine List.forall_mem_cons.mpr ⟨s_bipush (by decide +kernel) (by decide) rfl, ?_⟩
  refine List.forall_mem_cons.mpr ⟨s_iret rfl (by decide +kernel), ?_⟩
  exact fun q hq => absurd hq List.not_mem_nil
def T_X9_last : List (Nat × zO) := [(0, o_aload 1 0), (1, o_iload 2 1), (2, o_callv 1 9 k_X9_areTwo 5), (5, o_if_eq 34 8), (8, o_aload 9 0), (9, o_iload 10 2), (10, o_callv 1 9 k_X9_isSt 13), (13, o_if_eq 34 16), (16, o_aload 17 0), (17, o_iload 18 3), (18, o_callv 1 9 k_X9_areWinds 21), (21, o_if_eq 34 24), (24, o_aload 25 0), (25, o_iload 26 1), (26, o_iload 27 2), (27, o_iload 28 3), (28, o_callv 3 9 k_X9_lastFrom 31), (31, o_goto 35), (34, o_const 35 (-1)), (35, o_iret)]
set_option maxRecDepth 20000 in
theorem t_X9_last : ∀ q ∈ T_X9_last, zS k_X9_last q.1 q.2 := by
  unfold T_X9_last
  refine List.forall_mem_cons.mpr ⟨s_aload_n (j := 0) (by decide +kernel) rfl rfl, ?_⟩
  refine List.forall_mem_cons.mpr ⟨s_iload_n (j := 1) (by decide +kernel) rfl rfl, ?_⟩
  refine List.forall_mem_cons.mpr ⟨s_callv (idx := 192) (k' := k_X9_areTwo) (T := TX9) (N := 54) rfl q5_112 q5_109 q5_111 qs_38 q1_10 de_X9_areTwo (by decide) (by decide +kernel) rfl, ?_⟩
  refine List.forall_mem_cons.mpr ⟨s_if_eq (off := 29) (by decide +kernel) (by decide) rfl, ?_⟩
  refine List.forall_mem_cons.mpr ⟨s_aload_n (j := 0) (by decide +kernel) rfl rfl, ?_⟩
  refine List.forall_mem_cons.mpr ⟨s_iload_n (j := 2) (by decide +kernel) rfl rfl, ?_⟩
  refine List.forall_mem_cons.mpr ⟨s_callv (idx := 249) (k' := k_X9_isSt) (T := TX9) (N := 54) rfl q5_163 q5_160 q5_162 qs_43 q1_10 de_X9_isSt (by decide) (by decide +kernel) rfl, ?_⟩
  refine List.forall_mem_cons.mpr ⟨s_if_eq (off := 21) (by decide +kernel) (by decide) rfl, ?_⟩
  refine List.forall_mem_cons.mpr ⟨s_aload_n (j := 0) (by decide +kernel) rfl rfl, ?_⟩
  refine List.forall_mem_cons.mpr ⟨s_iload_n (j := 3) (by decide +kernel) rfl rfl, ?_⟩
  refine List.forall_mem_cons.mpr ⟨s_callv (idx := 252) (k' := k_X9_areWinds) (T := TX9) (N := 54) rfl q5_167 q5_164 q5_166 qs_44 q1_10 de_X9_areWinds (by decide) (by decide +kernel) rfl, ?_⟩
  refine List.forall_mem_cons.mpr ⟨s_if_eq (off := 13) (by decide +kernel) (by decide) rfl, ?_⟩
  refine List.forall_mem_cons.mpr ⟨s_aload_n (j := 0) (by decide +kernel) rfl rfl, ?_⟩
  refine List.forall_mem_cons.mpr ⟨s_iload_n (j := 1) (by decide +kernel) rfl rfl, ?_⟩
  refine List.forall_mem_cons.mpr ⟨s_iload_n (j := 2) (by decide +kernel) rfl rfl, ?_⟩
  refine List.forall_mem_cons.mpr ⟨s_iload_n (j := 3) (by decide +kernel) rfl rfl, ?_⟩
  refine List.forall_mem_cons.mpr ⟨s_callv (idx := 273) (k' := k_X9_lastFrom) (T := TX9) (N := 54) rfl q5_219 q5_216 q5_218 qs_54 q1_10 de_X9_lastFrom (by decide) (by decide +kernel) rfl, ?_⟩
  refine List.forall_mem_cons.mpr ⟨s_goto (off := 4) (by decide +kernel) (by decide), ?_⟩
  refine List.forall_mem_cons.mpr ⟨s_iconst (by decide +kernel) rfl, ?_⟩
  refine List.forall_mem_cons.mpr ⟨s_iret rfl (by decide +kernel), ?_⟩
  exact fun q hq => absurd hq List.not_mem_nil
def T_X9_allWinds : List (Nat × zO) := [(0, o_const 1 1), (1, o_aload 2 0), (2, o_getf 5 9 16), (5, o_ishl 6), (6, o_const 7 1), (7, o_isub 8), (8, o_iret)]
set_option maxRecDepth 20000 in
theorem t_X9_allWinds : ∀ q ∈ T_X9_allWinds, zS k_X9_allWinds q.1 q.2 := by
  unfold T_X9_allWinds
  refine List.forall_mem_cons.mpr ⟨s_iconst (by decide +kernel) rfl, ?_⟩
  refine List.forall_mem_cons.mpr ⟨s_aload_n (j := 0) (by decide +kernel) rfl rfl, ?_⟩
  refine List.forall_mem_cons.mpr ⟨s_getf (idx := 117) (C := RX9) (T := TX9) (N := 54) rfl inX9 (by decide) q4_127 (by decide +kernel) rfl, ?_⟩
  refine List.forall_mem_cons.mpr ⟨s_ishl (by decide +kernel) rfl, ?_⟩
  refine List.forall_mem_cons.mpr ⟨s_iconst (by decide +kernel) rfl, ?_⟩
  refine List.forall_mem_cons.mpr ⟨s_isub (by decide +kernel) rfl, ?_⟩
  refine List.forall_mem_cons.mpr ⟨s_iret rfl (by decide +kernel), ?_⟩
  exact fun q hq => absurd hq List.not_mem_nil
def T_X9_chancesOf : List (Nat × zO) := [(0, o_const 1 0), (1, o_istore 2 2), (2, o_const 3 0), (3, o_istore 4 3), (4, o_iload 5 3), (5, o_aload 6 0), (6, o_getf 9 9 16), (9, o_icmp_ge 40 12), (12, o_iload 13 2), (13, o_iload 14 1), (14, o_iload 15 3), (15, o_ishr 16), (16, o_const 17 1), (17, o_iand 18), (18, o_const 19 1), (19, o_icmp_ne 31 22), (22, o_aload 23 0), (23, o_getf 26 9 19), (26, o_iload 27 3), (27, o_iald 28), (28, o_goto 32), (31, o_const 32 0), (32, o_iadd 33), (33, o_istore 34 2), (34, o_iinc 37 3 1), (37, o_goto 4), (40, o_iload 41 2), (41, o_iret)]
set_option maxRecDepth 20000 in
theorem t_X9_chancesOf : ∀ q ∈ T_X9_chancesOf, zS k_X9_chancesOf q.1 q.2 := by
  unfold T_X9_chancesOf
  refine List.forall_mem_cons.mpr ⟨s_iconst (by decide +kernel) rfl, ?_⟩
  refine List.forall_mem_cons.mpr ⟨s_istore_n (j := 2) (by decide +kernel) rfl (by decide) rfl, ?_⟩
  refine List.forall_mem_cons.mpr ⟨s_iconst (by decide +kernel) rfl, ?_⟩
  refine List.forall_mem_cons.mpr ⟨s_istore_n (j := 3) (by decide +kernel) rfl (by decide) rfl, ?_⟩
  refine List.forall_mem_cons.mpr ⟨s_iload_n (j := 3) (by decide +kernel) rfl rfl, ?_⟩
  refine List.forall_mem_cons.mpr ⟨s_aload_n (j := 0) (by decide +kernel) rfl rfl, ?_⟩
  refine List.forall_mem_cons.mpr ⟨s_getf (idx := 117) (C := RX9) (T := TX9) (N := 54) rfl inX9 (by decide) q4_127 (by decide +kernel) rfl, ?_⟩
  refine List.forall_mem_cons.mpr ⟨s_icmp_ge (off := 31) (by decide +kernel) (by decide) rfl, ?_⟩
  refine List.forall_mem_cons.mpr ⟨s_iload_n (j := 2) (by decide +kernel) rfl rfl, ?_⟩
  refine List.forall_mem_cons.mpr ⟨s_iload_n (j := 1) (by decide +kernel) rfl rfl, ?_⟩
  refine List.forall_mem_cons.mpr ⟨s_iload_n (j := 3) (by decide +kernel) rfl rfl, ?_⟩
  refine List.forall_mem_cons.mpr ⟨s_ishr (by decide +kernel) rfl, ?_⟩
  refine List.forall_mem_cons.mpr ⟨s_iconst (by decide +kernel) rfl, ?_⟩
  refine List.forall_mem_cons.mpr ⟨s_iand (by decide +kernel) rfl, ?_⟩
  refine List.forall_mem_cons.mpr ⟨s_iconst (by decide +kernel) rfl, ?_⟩
  refine List.forall_mem_cons.mpr ⟨s_icmp_ne (off := 12) (by decide +kernel) (by decide) rfl, ?_⟩
  refine List.forall_mem_cons.mpr ⟨s_aload_n (j := 0) (by decide +kernel) rfl rfl, ?_⟩
  refine List.forall_mem_cons.mpr ⟨s_getf (idx := 52) (C := RX9) (T := TX9) (N := 54) rfl inX9 (by decide) q4_130 (by decide +kernel) rfl, ?_⟩
  refine List.forall_mem_cons.mpr ⟨s_iload_n (j := 3) (by decide +kernel) rfl rfl, ?_⟩
  refine List.forall_mem_cons.mpr ⟨s_iald (by decide +kernel) rfl, ?_⟩
  refine List.forall_mem_cons.mpr ⟨s_goto (off := 4) (by decide +kernel) (by decide), ?_⟩
  refine List.forall_mem_cons.mpr ⟨s_iconst (by decide +kernel) rfl, ?_⟩
  refine List.forall_mem_cons.mpr ⟨s_iadd (by decide +kernel) rfl, ?_⟩
  refine List.forall_mem_cons.mpr ⟨s_istore_n (j := 2) (by decide +kernel) rfl (by decide) rfl, ?_⟩
  refine List.forall_mem_cons.mpr ⟨s_iinc (by decide +kernel) (by decide) rfl, ?_⟩
  refine List.forall_mem_cons.mpr ⟨s_goto (off := (-33)) (by decide +kernel) (by decide), ?_⟩
  refine List.forall_mem_cons.mpr ⟨s_iload_n (j := 2) (by decide +kernel) rfl rfl, ?_⟩
  refine List.forall_mem_cons.mpr ⟨s_iret rfl (by decide +kernel), ?_⟩
  exact fun q hq => absurd hq List.not_mem_nil
def T_X9_byDark : List (Nat × zO) := [(0, o_aload 1 0), (1, o_iload 2 1), (2, o_iload 3 3), (3, o_iload 5 4), (5, o_callv 3 9 k_X9_reach 8), (8, o_aload 9 0), (9, o_iload 10 2), (10, o_callv 1 9 k_X9_soonAt 13), (13, o_istore 15 5), (15, o_iload 17 5), (17, o_if_lt 33 20), (20, o_iload 22 5), (22, o_aload 23 0), (23, o_getf 26 9 26), (26, o_icmp_gt 33 29), (29, o_const 30 1), (30, o_goto 34), (33, o_const 34 0), (34, o_zret)]
set_option maxRecDepth 20000 in
theorem t_X9_byDark : ∀ q ∈ T_X9_byDark, zS k_X9_byDark q.1 q.2 := by
  unfold T_X9_byDark
  refine List.forall_mem_cons.mpr ⟨s_aload_n (j := 0) (by decide +kernel) rfl rfl, ?_⟩
  refine List.forall_mem_cons.mpr ⟨s_iload_n (j := 1) (by decide +kernel) rfl rfl, ?_⟩
  refine List.forall_mem_cons.mpr ⟨s_iload_n (j := 3) (by decide +kernel) rfl rfl, ?_⟩
  refine List.forall_mem_cons.mpr ⟨s_iload (by decide +kernel) rfl, ?_⟩
  refine List.forall_mem_cons.mpr ⟨s_callv (idx := 260) (k' := k_X9_reach) (T := TX9) (N := 54) rfl q5_188 q5_185 q5_187 qs_48 q1_10 de_X9_reach (by decide) (by decide +kernel) rfl, ?_⟩
  refine List.forall_mem_cons.mpr ⟨s_aload_n (j := 0) (by decide +kernel) rfl rfl, ?_⟩
  refine List.forall_mem_cons.mpr ⟨s_iload_n (j := 2) (by decide +kernel) rfl rfl, ?_⟩
  refine List.forall_mem_cons.mpr ⟨s_callv (idx := 263) (k' := k_X9_soonAt) (T := TX9) (N := 54) rfl q5_207 q5_204 q5_206 qs_52 q1_10 de_X9_soonAt (by decide) (by decide +kernel) rfl, ?_⟩
  refine List.forall_mem_cons.mpr ⟨s_istore (by decide +kernel) (by decide) rfl, ?_⟩
  refine List.forall_mem_cons.mpr ⟨s_iload (by decide +kernel) rfl, ?_⟩
  refine List.forall_mem_cons.mpr ⟨s_if_lt (off := 16) (by decide +kernel) (by decide) rfl, ?_⟩
  refine List.forall_mem_cons.mpr ⟨s_iload (by decide +kernel) rfl, ?_⟩
  refine List.forall_mem_cons.mpr ⟨s_aload_n (j := 0) (by decide +kernel) rfl rfl, ?_⟩
  refine List.forall_mem_cons.mpr ⟨s_getf (idx := 120) (C := RX9) (T := TX9) (N := 54) rfl inX9 (by decide) q4_137 (by decide +kernel) rfl, ?_⟩
  refine List.forall_mem_cons.mpr ⟨s_icmp_gt (off := 7) (by decide +kernel) (by decide) rfl, ?_⟩
  refine List.forall_mem_cons.mpr ⟨s_iconst (by decide +kernel) rfl, ?_⟩
  refine List.forall_mem_cons.mpr ⟨s_goto (off := 4) (by decide +kernel) (by decide), ?_⟩
  refine List.forall_mem_cons.mpr ⟨s_iconst (by decide +kernel) rfl, ?_⟩
  refine List.forall_mem_cons.mpr ⟨s_zret rfl (by decide +kernel), ?_⟩
  exact fun q hq => absurd hq List.not_mem_nil
def T_X9_best : List (Nat × zO) := [(0, o_aload 1 0), (1, o_iload 2 1), (2, o_callv 1 9 k_X9_isFrom 5), (5, o_if_eq 35 8), (8, o_aload 9 0), (9, o_iload 10 2), (10, o_callv 1 9 k_X9_isPlace 13), (13, o_if_eq 35 16), (16, o_aload 17 0), (17, o_iload 18 3), (18, o_callv 1 9 k_X9_isSt 21), (21, o_if_eq 35 24), (24, o_iload 26 4), (26, o_i2l 27), (27, o_lconst 28 0), (28, o_lconst 29 1), (29, o_calls 3 k_X9_within 32), (32, o_if_ne 37 35), (35, o_const 36 (-1)), (36, o_iret), (37, o_const 38 0), (38, o_istore 40 5), (40, o_const 41 1), (41, o_istore 43 6), (43, o_iload 45 6), (45, o_aload 46 0), (46, o_callv 0 9 k_X9_allWinds 49), (49, o_icmp_gt 89 52), (52, o_aload 53 0), (53, o_iload 55 6), (55, o_callv 1 9 k_X9_chancesOf 58), (58, o_aload 59 0), (59, o_iload 61 5), (61, o_callv 1 9 k_X9_chancesOf 64), (64, o_icmp_le 83 67), (67, o_aload 68 0), (68, o_iload 69 1), (69, o_iload 70 2), (70, o_iload 71 3), (71, o_iload 73 6), (73, o_callv 4 9 k_X9_byDark 76), (76, o_if_eq 83 79), (79, o_iload 81 6), (81, o_istore 83 5), (83, o_iinc 86 6 1), (86, o_goto 43), (89, o_iload 91 4), (91, o_const 92 1), (92, o_icmp_ne 100 95), (95, o_iload 97 5), (97, o_goto 119), (100, o_const 103 1000), (103, o_aload 104 0), (104, o_iload 106 5), (106, o_callv 1 9 k_X9_chancesOf 109), (109, o_imul 110), (110, o_aload 111 0), (111, o_aload 112 0), (112, o_callv 0 9 k_X9_allWinds 115), (115, o_callv 1 9 k_X9_chancesOf 118), (118, o_idiv 119), (119, o_iret)]
set_option maxRecDepth 20000 in
theorem t_X9_best : ∀ q ∈ T_X9_best, zS k_X9_best q.1 q.2 := by
  unfold T_X9_best
  refine List.forall_mem_cons.mpr ⟨s_aload_n (j := 0) (by decide +kernel) rfl rfl, ?_⟩
  refine List.forall_mem_cons.mpr ⟨s_iload_n (j := 1) (by decide +kernel) rfl rfl, ?_⟩
  refine List.forall_mem_cons.mpr ⟨s_callv (idx := 257) (k' := k_X9_isFrom) (T := TX9) (N := 54) rfl q5_184 q5_181 q5_183 qs_47 q1_10 de_X9_isFrom (by decide) (by decide +kernel) rfl, ?_⟩
  refine List.forall_mem_cons.mpr ⟨s_if_eq (off := 30) (by decide +kernel) (by decide) rfl, ?_⟩
  refine List.forall_mem_cons.mpr ⟨s_aload_n (j := 0) (by decide +kernel) rfl rfl, ?_⟩
  refine List.forall_mem_cons.mpr ⟨s_iload_n (j := 2) (by decide +kernel) rfl rfl, ?_⟩
  refine List.forall_mem_cons.mpr ⟨s_callv (idx := 189) (k' := k_X9_isPlace) (T := TX9) (N := 54) rfl q5_116 q5_113 q5_115 qs_39 q1_10 de_X9_isPlace (by decide) (by decide +kernel) rfl, ?_⟩
  refine List.forall_mem_cons.mpr ⟨s_if_eq (off := 22) (by decide +kernel) (by decide) rfl, ?_⟩
  refine List.forall_mem_cons.mpr ⟨s_aload_n (j := 0) (by decide +kernel) rfl rfl, ?_⟩
  refine List.forall_mem_cons.mpr ⟨s_iload_n (j := 3) (by decide +kernel) rfl rfl, ?_⟩
  refine List.forall_mem_cons.mpr ⟨s_callv (idx := 249) (k' := k_X9_isSt) (T := TX9) (N := 54) rfl q5_163 q5_160 q5_162 qs_43 q1_10 de_X9_isSt (by decide) (by decide +kernel) rfl, ?_⟩
  refine List.forall_mem_cons.mpr ⟨s_if_eq (off := 14) (by decide +kernel) (by decide) rfl, ?_⟩
  refine List.forall_mem_cons.mpr ⟨s_iload (by decide +kernel) rfl, ?_⟩
  refine List.forall_mem_cons.mpr ⟨s_i2l (by decide +kernel) rfl, ?_⟩
  refine List.forall_mem_cons.mpr ⟨s_lconst (z := 0) (by decide +kernel) (by decide) rfl, ?_⟩
  refine List.forall_mem_cons.mpr ⟨s_lconst (z := 1) (by decide +kernel) (by decide) rfl, ?_⟩
  refine List.forall_mem_cons.mpr ⟨s_calls (idx := 5) (k' := k_X9_within) q5_50 q5_48 q5_49 q1_10 de_X9_within (by decide) (by decide +kernel) rfl, ?_⟩
  refine List.forall_mem_cons.mpr ⟨s_if_ne (off := 5) (by decide +kernel) (by decide) rfl, ?_⟩
  refine List.forall_mem_cons.mpr ⟨s_iconst (by decide +kernel) rfl, ?_⟩
  refine List.forall_mem_cons.mpr ⟨s_iret rfl (by decide +kernel), ?_⟩
  refine List.forall_mem_cons.mpr ⟨s_iconst (by decide +kernel) rfl, ?_⟩
  refine List.forall_mem_cons.mpr ⟨s_istore (by decide +kernel) (by decide) rfl, ?_⟩
  refine List.forall_mem_cons.mpr ⟨s_iconst (by decide +kernel) rfl, ?_⟩
  refine List.forall_mem_cons.mpr ⟨s_istore (by decide +kernel) (by decide) rfl, ?_⟩
  refine List.forall_mem_cons.mpr ⟨s_iload (by decide +kernel) rfl, ?_⟩
  refine List.forall_mem_cons.mpr ⟨s_aload_n (j := 0) (by decide +kernel) rfl rfl, ?_⟩
  refine List.forall_mem_cons.mpr ⟨s_callv (idx := 276) (k' := k_X9_allWinds) (T := TX9) (N := 54) rfl q5_235 q5_232 q5_234 qs_57 q1_10 de_X9_allWinds (by decide) (by decide +kernel) rfl, ?_⟩
  refine List.forall_mem_cons.mpr ⟨s_icmp_gt (off := 40) (by decide +kernel) (by decide) rfl, ?_⟩
  refine List.forall_mem_cons.mpr ⟨s_aload_n (j := 0) (by decide +kernel) rfl rfl, ?_⟩
  refine List.forall_mem_cons.mpr ⟨s_iload (by decide +kernel) rfl, ?_⟩
  refine List.forall_mem_cons.mpr ⟨s_callv (idx := 279) (k' := k_X9_chancesOf) (T := TX9) (N := 54) rfl q5_239 q5_236 q5_238 qs_58 q1_10 de_X9_chancesOf (by decide) (by decide +kernel) rfl, ?_⟩
  refine List.forall_mem_cons.mpr ⟨s_aload_n (j := 0) (by decide +kernel) rfl rfl, ?_⟩
  refine List.forall_mem_cons.mpr ⟨s_iload (by decide +kernel) rfl, ?_⟩
  refine List.forall_mem_cons.mpr ⟨s_callv (idx := 279) (k' := k_X9_chancesOf) (T := TX9) (N := 54) rfl q5_239 q5_236 q5_238 qs_58 q1_10 de_X9_chancesOf (by decide) (by decide +kernel) rfl, ?_⟩
  refine List.forall_mem_cons.mpr ⟨s_icmp_le (off := 19) (by decide +kernel) (by decide) rfl, ?_⟩
  refine List.forall_mem_cons.mpr ⟨s_aload_n (j := 0) (by decide +kernel) rfl rfl, ?_⟩
  refine List.forall_mem_cons.mpr ⟨s_iload_n (j := 1) (by decide +kernel) rfl rfl, ?_⟩
  refine List.forall_mem_cons.mpr ⟨s_iload_n (j := 2) (by decide +kernel) rfl rfl, ?_⟩
  refine List.forall_mem_cons.mpr ⟨s_iload_n (j := 3) (by decide +kernel) rfl rfl, ?_⟩
  refine List.forall_mem_cons.mpr ⟨s_iload (by decide +kernel) rfl, ?_⟩
  refine List.forall_mem_cons.mpr ⟨s_callv (idx := 282) (k' := k_X9_byDark) (T := TX9) (N := 54) rfl q6_3 q6_0 q6_2 qs_59 q1_10 de_X9_byDark (by decide) (by decide +kernel) rfl, ?_⟩
  refine List.forall_mem_cons.mpr ⟨s_if_eq (off := 7) (by decide +kernel) (by decide) rfl, ?_⟩
  refine List.forall_mem_cons.mpr ⟨s_iload (by decide +kernel) rfl, ?_⟩
  refine List.forall_mem_cons.mpr ⟨s_istore (by decide +kernel) (by decide) rfl, ?_⟩
  refine List.forall_mem_cons.mpr ⟨s_iinc (by decide +kernel) (by decide) rfl, ?_⟩
  refine List.forall_mem_cons.mpr ⟨s_goto (off := (-43)) (by decide +kernel) (by decide), ?_⟩
  refine List.forall_mem_cons.mpr ⟨s_iload (by decide +kernel) rfl, ?_⟩
  refine List.forall_mem_cons.mpr ⟨s_iconst (by decide +kernel) rfl, ?_⟩
  refine List.forall_mem_cons.mpr ⟨s_icmp_ne (off := 8) (by decide +kernel) (by decide) rfl, ?_⟩
  refine List.forall_mem_cons.mpr ⟨s_iload (by decide +kernel) rfl, ?_⟩
  refine List.forall_mem_cons.mpr ⟨s_goto (off := 22) (by decide +kernel) (by decide), ?_⟩
  refine List.forall_mem_cons.mpr ⟨s_sipush (by decide +kernel) (by decide) rfl, ?_⟩
  refine List.forall_mem_cons.mpr ⟨s_aload_n (j := 0) (by decide +kernel) rfl rfl, ?_⟩
  refine List.forall_mem_cons.mpr ⟨s_iload (by decide +kernel) rfl, ?_⟩
  refine List.forall_mem_cons.mpr ⟨s_callv (idx := 279) (k' := k_X9_chancesOf) (T := TX9) (N := 54) rfl q5_239 q5_236 q5_238 qs_58 q1_10 de_X9_chancesOf (by decide) (by decide +kernel) rfl, ?_⟩
  refine List.forall_mem_cons.mpr ⟨s_imul (by decide +kernel) rfl, ?_⟩
  refine List.forall_mem_cons.mpr ⟨s_aload_n (j := 0) (by decide +kernel) rfl rfl, ?_⟩
  refine List.forall_mem_cons.mpr ⟨s_aload_n (j := 0) (by decide +kernel) rfl rfl, ?_⟩
  refine List.forall_mem_cons.mpr ⟨s_callv (idx := 276) (k' := k_X9_allWinds) (T := TX9) (N := 54) rfl q5_235 q5_232 q5_234 qs_57 q1_10 de_X9_allWinds (by decide) (by decide +kernel) rfl, ?_⟩
  refine List.forall_mem_cons.mpr ⟨s_callv (idx := 279) (k' := k_X9_chancesOf) (T := TX9) (N := 54) rfl q5_239 q5_236 q5_238 qs_58 q1_10 de_X9_chancesOf (by decide) (by decide +kernel) rfl, ?_⟩
  refine List.forall_mem_cons.mpr ⟨s_idiv (by decide +kernel) rfl, ?_⟩
  refine List.forall_mem_cons.mpr ⟨s_iret rfl (by decide +kernel), ?_⟩
  exact fun q hq => absurd hq List.not_mem_nil
def T_X9_days : List (Nat × zO) := [(0, o_aload 1 0), (1, o_iload 2 1), (2, o_callv 1 9 k_X9_areTwo 5), (5, o_if_eq 25 8), (8, o_iload 9 2), (9, o_calls 1 k_X9_isSort 12), (12, o_if_eq 25 15), (15, o_iload 16 3), (16, o_i2l 17), (17, o_lconst 18 0), (18, o_lconst 19 1), (19, o_calls 3 k_X9_within 22), (22, o_if_ne 27 25), (25, o_const 26 (-1)), (26, o_iret), (27, o_const 28 0), (28, o_istore 30 4), (30, o_const 32 (-2)), (32, o_istore 34 5), (34, o_const 35 (-1)), (35, o_istore 37 6), (37, o_const 38 0), (38, o_istore 40 7), (40, o_iload 42 7), (42, o_aload 43 0), (43, o_getf 46 9 8), (46, o_icmp_ge 106 49), (49, o_aload 50 0), (50, o_iload 51 1), (51, o_const 53 10), (53, o_iload 54 2), (54, o_imul 55), (55, o_iload 57 7), (57, o_iadd 58), (58, o_aload 59 0), (59, o_callv 0 9 k_X9_allWinds 62), (62, o_callv 3 9 k_X9_lastFrom 65), (65, o_istore 67 8), (67, o_iload 69 4), (69, o_iload 71 8), (71, o_if_lt 81 74), (74, o_const 75 1), (75, o_iload 77 7), (77, o_ishl 78), (78, o_goto 82), (81, o_const 82 0), (82, o_ior 83), (83, o_istore 85 4), (85, o_iload 87 8), (87, o_iload 89 6), (89, o_icmp_le 100 92), (92, o_iload 94 7), (94, o_istore 96 5), (96, o_iload 98 8), (98, o_istore 100 6), (100, o_iinc 103 7 1), (103, o_goto 40), (106, o_iload 107 3), (107, o_if_ne 115 110), (110, o_iload 112 4), (112, o_goto 117), (115, o_iload 117 5), (117, o_iret)]
set_option maxRecDepth 20000 in
theorem t_X9_days : ∀ q ∈ T_X9_days, zS k_X9_days q.1 q.2 := by
  unfold T_X9_days
  refine List.forall_mem_cons.mpr ⟨s_aload_n (j := 0) (by decide +kernel) rfl rfl, ?_⟩
  refine List.forall_mem_cons.mpr ⟨s_iload_n (j := 1) (by decide +kernel) rfl rfl, ?_⟩
  refine List.forall_mem_cons.mpr ⟨s_callv (idx := 192) (k' := k_X9_areTwo) (T := TX9) (N := 54) rfl q5_112 q5_109 q5_111 qs_38 q1_10 de_X9_areTwo (by decide) (by decide +kernel) rfl, ?_⟩
  refine List.forall_mem_cons.mpr ⟨s_if_eq (off := 20) (by decide +kernel) (by decide) rfl, ?_⟩
  refine List.forall_mem_cons.mpr ⟨s_iload_n (j := 2) (by decide +kernel) rfl rfl, ?_⟩
  refine List.forall_mem_cons.mpr ⟨s_calls (idx := 205) (k' := k_X9_isSort) q5_140 q5_138 q5_139 q1_10 de_X9_isSort (by decide) (by decide +kernel) rfl, ?_⟩
  refine List.forall_mem_cons.mpr ⟨s_if_eq (off := 13) (by decide +kernel) (by decide) rfl, ?_⟩
  refine List.forall_mem_cons.mpr ⟨s_iload_n (j := 3) (by decide +kernel) rfl rfl, ?_⟩
  refine List.forall_mem_cons.mpr ⟨s_i2l (by decide +kernel) rfl, ?_⟩
  refine List.forall_mem_cons.mpr ⟨s_lconst (z := 0) (by decide +kernel) (by decide) rfl, ?_⟩
  refine List.forall_mem_cons.mpr ⟨s_lconst (z := 1) (by decide +kernel) (by decide) rfl, ?_⟩
  refine List.forall_mem_cons.mpr ⟨s_calls (idx := 5) (k' := k_X9_within) q5_50 q5_48 q5_49 q1_10 de_X9_within (by decide) (by decide +kernel) rfl, ?_⟩
  refine List.forall_mem_cons.mpr ⟨s_if_ne (off := 5) (by decide +kernel) (by decide) rfl, ?_⟩
  refine List.forall_mem_cons.mpr ⟨s_iconst (by decide +kernel) rfl, ?_⟩
  refine List.forall_mem_cons.mpr ⟨s_iret rfl (by decide +kernel), ?_⟩
  refine List.forall_mem_cons.mpr ⟨s_iconst (by decide +kernel) rfl, ?_⟩
  refine List.forall_mem_cons.mpr ⟨s_istore (by decide +kernel) (by decide) rfl, ?_⟩
  refine List.forall_mem_cons.mpr ⟨s_bipush (by decide +kernel) (by decide) rfl, ?_⟩
  refine List.forall_mem_cons.mpr ⟨s_istore (by decide +kernel) (by decide) rfl, ?_⟩
  refine List.forall_mem_cons.mpr ⟨s_iconst (by decide +kernel) rfl, ?_⟩
  refine List.forall_mem_cons.mpr ⟨s_istore (by decide +kernel) (by decide) rfl, ?_⟩
  refine List.forall_mem_cons.mpr ⟨s_iconst (by decide +kernel) rfl, ?_⟩
  refine List.forall_mem_cons.mpr ⟨s_istore (by decide +kernel) (by decide) rfl, ?_⟩
  refine List.forall_mem_cons.mpr ⟨s_iload (by decide +kernel) rfl, ?_⟩
  refine List.forall_mem_cons.mpr ⟨s_aload_n (j := 0) (by decide +kernel) rfl rfl, ?_⟩
  refine List.forall_mem_cons.mpr ⟨s_getf (idx := 148) (C := RX9) (T := TX9) (N := 54) rfl inX9 (by decide) q4_119 (by decide +kernel) rfl, ?_⟩
  refine List.forall_mem_cons.mpr ⟨s_icmp_ge (off := 60) (by decide +kernel) (by decide) rfl, ?_⟩
  refine List.forall_mem_cons.mpr ⟨s_aload_n (j := 0) (by decide +kernel) rfl rfl, ?_⟩
  refine List.forall_mem_cons.mpr ⟨s_iload_n (j := 1) (by decide +kernel) rfl rfl, ?_⟩
  refine List.forall_mem_cons.mpr ⟨s_bipush (by decide +kernel) (by decide) rfl, ?_⟩
  refine List.forall_mem_cons.mpr ⟨s_iload_n (j := 2) (by decide +kernel) rfl rfl, ?_⟩
  refine List.forall_mem_cons.mpr ⟨s_imul (by decide +kernel) rfl, ?_⟩
  refine List.forall_mem_cons.mpr ⟨s_iload (by decide +kernel) rfl, ?_⟩
  refine List.forall_mem_cons.mpr ⟨s_iadd (by decide +kernel) rfl, ?_⟩
  refine List.forall_mem_cons.mpr ⟨s_aload_n (j := 0) (by decide +kernel) rfl rfl, ?_⟩
  refine List.forall_mem_cons.mpr ⟨s_callv (idx := 276) (k' := k_X9_allWinds) (T := TX9) (N := 54) rfl q5_235 q5_232 q5_234 qs_57 q1_10 de_X9_allWinds (by decide) (by decide +kernel) rfl, ?_⟩
  refine List.forall_mem_cons.mpr ⟨s_callv (idx := 273) (k' := k_X9_lastFrom) (T := TX9) (N := 54) rfl q5_219 q5_216 q5_218 qs_54 q1_10 de_X9_lastFrom (by decide) (by decide +kernel) rfl, ?_⟩
  refine List.forall_mem_cons.mpr ⟨s_istore (by decide +kernel) (by decide) rfl, ?_⟩
  refine List.forall_mem_cons.mpr ⟨s_iload (by decide +kernel) rfl, ?_⟩
  refine List.forall_mem_cons.mpr ⟨s_iload (by decide +kernel) rfl, ?_⟩
  refine List.forall_mem_cons.mpr ⟨s_if_lt (off := 10) (by decide +kernel) (by decide) rfl, ?_⟩
  refine List.forall_mem_cons.mpr ⟨s_iconst (by decide +kernel) rfl, ?_⟩
  refine List.forall_mem_cons.mpr ⟨s_iload (by decide +kernel) rfl, ?_⟩
  refine List.forall_mem_cons.mpr ⟨s_ishl (by decide +kernel) rfl, ?_⟩
  refine List.forall_mem_cons.mpr ⟨s_goto (off := 4) (by decide +kernel) (by decide), ?_⟩
  refine List.forall_mem_cons.mpr ⟨s_iconst (by decide +kernel) rfl, ?_⟩
  refine List.forall_mem_cons.mpr ⟨s_ior (by decide +kernel) rfl, ?_⟩
  refine List.forall_mem_cons.mpr ⟨s_istore (by decide +kernel) (by decide) rfl, ?_⟩
  refine List.forall_mem_cons.mpr ⟨s_iload (by decide +kernel) rfl, ?_⟩
  refine List.forall_mem_cons.mpr ⟨s_iload (by decide +kernel) rfl, ?_⟩
  refine List.forall_mem_cons.mpr ⟨s_icmp_le (off := 11) (by decide +kernel) (by decide) rfl, ?_⟩
  refine List.forall_mem_cons.mpr ⟨s_iload (by decide +kernel) rfl, ?_⟩
  refine List.forall_mem_cons.mpr ⟨s_istore (by decide +kernel) (by decide) rfl, ?_⟩
  refine List.forall_mem_cons.mpr ⟨s_iload (by decide +kernel) rfl, ?_⟩
  refine List.forall_mem_cons.mpr ⟨s_istore (by decide +kernel) (by decide) rfl, ?_⟩
  refine List.forall_mem_cons.mpr ⟨s_iinc (by decide +kernel) (by decide) rfl, ?_⟩
  refine List.forall_mem_cons.mpr ⟨s_goto (off := (-63)) (by decide +kernel) (by decide), ?_⟩
  refine List.forall_mem_cons.mpr ⟨s_iload_n (j := 3) (by decide +kernel) rfl rfl, ?_⟩
  refine List.forall_mem_cons.mpr ⟨s_if_ne (off := 8) (by decide +kernel) (by decide) rfl, ?_⟩
  refine List.forall_mem_cons.mpr ⟨s_iload (by decide +kernel) rfl, ?_⟩
  refine List.forall_mem_cons.mpr ⟨s_goto (off := 5) (by decide +kernel) (by decide), ?_⟩
  refine List.forall_mem_cons.mpr ⟨s_iload (by decide +kernel) rfl, ?_⟩
  refine List.forall_mem_cons.mpr ⟨s_iret rfl (by decide +kernel), ?_⟩
  exact fun q hq => absurd hq List.not_mem_nil
def T_X9_two : List (Nat × zO) := [(0, o_aload 1 0), (1, o_iload 2 1), (2, o_callv 1 9 k_X9_isFrom 5), (5, o_if_eq 44 8), (8, o_aload 9 0), (9, o_iload 10 2), (10, o_callv 1 9 k_X9_isFrom 13), (13, o_if_eq 44 16), (16, o_aload 17 0), (17, o_iload 18 3), (18, o_callv 1 9 k_X9_isSt 21), (21, o_if_eq 44 24), (24, o_aload 25 0), (25, o_iload 27 4), (27, o_callv 1 9 k_X9_areWinds 30), (30, o_if_eq 44 33), (33, o_iload 35 5), (35, o_i2l 36), (36, o_lconst 37 0), (37, o_lconst 38 1), (38, o_calls 3 k_X9_within 41), (41, o_if_ne 46 44), (44, o_const 45 (-1)), (45, o_iret), (46, o_aload 47 0), (47, o_iload 48 1), (48, o_iload 49 3), (49, o_iload 51 4), (51, o_callv 3 9 k_X9_reach 54), (54, o_const 55 0), (55, o_istore 57 6), (57, o_iload 59 6), (59, o_aload 60 0), (60, o_getf 63 9 20), (63, o_icmp_ge 111 66), (66, o_const 67 0), (67, o_istore 69 7), (69, o_iload 71 7), (71, o_const 74 1440), (74, o_icmp_ge 105 77), (77, o_aload 78 0), (78, o_getf 81 9 36), (81, o_const 84 1440), (84, o_iload 86 6), (86, o_imul 87), (87, o_iload 89 7), (89, o_iadd 90), (90, o_aload 91 0), (91, o_iload 93 6), (93, o_iload 95 7), (95, o_callv 2 9 k_X9_isAt 98), (98, o_bast 99), (99, o_iinc 102 7 1), (102, o_goto 69), (105, o_iinc 108 6 1), (108, o_goto 57), (111, o_aload 112 0), (112, o_iload 113 2), (113, o_iload 114 3), (114, o_iload 116 4), (116, o_callv 3 9 k_X9_reach 119), (119, o_const 120 0), (120, o_istore 122 6), (122, o_iload 124 6), (124, o_const 127 1440), (127, o_icmp_ge 195 130), (130, o_const 131 0), (131, o_istore 133 7), (133, o_iload 135 7), (135, o_aload 136 0), (136, o_getf 139 9 20), (139, o_icmp_ge 189 142), (142, o_aload 143 0), (143, o_getf 146 9 36), (146, o_const 149 1440), (149, o_iload 151 7), (151, o_imul 152), (152, o_iload 154 6), (154, o_iadd 155), (155, o_bald 156), (156, o_if_eq 183 159), (159, o_aload 160 0), (160, o_iload 162 7), (162, o_iload 164 6), (164, o_callv 2 9 k_X9_isAt 167), (167, o_if_eq 183 170), (170, o_iload 172 5), (172, o_if_ne 180 175), (175, o_iload 177 6), (177, o_goto 182), (180, o_iload 182 7), (182, o_iret), (183, o_iinc 186 7 1), (186, o_goto 133), (189, o_iinc 192 6 1), (192, o_goto 122), (195, o_const 197 (-2)), (197, o_iret)]
set_option maxRecDepth 20000 in
theorem t_X9_two : ∀ q ∈ T_X9_two, zS k_X9_two q.1 q.2 := by
  unfold T_X9_two
  refine List.forall_mem_cons.mpr ⟨s_aload_n (j := 0) (by decide +kernel) rfl rfl, ?_⟩
  refine List.forall_mem_cons.mpr ⟨s_iload_n (j := 1) (by decide +kernel) rfl rfl, ?_⟩
  refine List.forall_mem_cons.mpr ⟨s_callv (idx := 257) (k' := k_X9_isFrom) (T := TX9) (N := 54) rfl q5_184 q5_181 q5_183 qs_47 q1_10 de_X9_isFrom (by decide) (by decide +kernel) rfl, ?_⟩
  refine List.forall_mem_cons.mpr ⟨s_if_eq (off := 39) (by decide +kernel) (by decide) rfl, ?_⟩
  refine List.forall_mem_cons.mpr ⟨s_aload_n (j := 0) (by decide +kernel) rfl rfl, ?_⟩
  refine List.forall_mem_cons.mpr ⟨s_iload_n (j := 2) (by decide +kernel) rfl rfl, ?_⟩
  refine List.forall_mem_cons.mpr ⟨s_callv (idx := 257) (k' := k_X9_isFrom) (T := TX9) (N := 54) rfl q5_184 q5_181 q5_183 qs_47 q1_10 de_X9_isFrom (by decide) (by decide +kernel) rfl, ?_⟩
  refine List.forall_mem_cons.mpr ⟨s_if_eq (off := 31) (by decide +kernel) (by decide) rfl, ?_⟩
  refine List.forall_mem_cons.mpr ⟨s_aload_n (j := 0) (by decide +kernel) rfl rfl, ?_⟩
  refine List.forall_mem_cons.mpr ⟨s_iload_n (j := 3) (by decide +kernel) rfl rfl, ?_⟩
  refine List.forall_mem_cons.mpr ⟨s_callv (idx := 249) (k' := k_X9_isSt) (T := TX9) (N := 54) rfl q5_163 q5_160 q5_162 qs_43 q1_10 de_X9_isSt (by decide) (by decide +kernel) rfl, ?_⟩
  refine List.forall_mem_cons.mpr ⟨s_if_eq (off := 23) (by decide +kernel) (by decide) rfl, ?_⟩
  refine List.forall_mem_cons.mpr ⟨s_aload_n (j := 0) (by decide +kernel) rfl rfl, ?_⟩
  refine List.forall_mem_cons.mpr ⟨s_iload (by decide +kernel) rfl, ?_⟩
  refine List.forall_mem_cons.mpr ⟨s_callv (idx := 252) (k' := k_X9_areWinds) (T := TX9) (N := 54) rfl q5_167 q5_164 q5_166 qs_44 q1_10 de_X9_areWinds (by decide) (by decide +kernel) rfl, ?_⟩
  refine List.forall_mem_cons.mpr ⟨s_if_eq (off := 14) (by decide +kernel) (by decide) rfl, ?_⟩
  refine List.forall_mem_cons.mpr ⟨s_iload (by decide +kernel) rfl, ?_⟩
  refine List.forall_mem_cons.mpr ⟨s_i2l (by decide +kernel) rfl, ?_⟩
  refine List.forall_mem_cons.mpr ⟨s_lconst (z := 0) (by decide +kernel) (by decide) rfl, ?_⟩
  refine List.forall_mem_cons.mpr ⟨s_lconst (z := 1) (by decide +kernel) (by decide) rfl, ?_⟩
  refine List.forall_mem_cons.mpr ⟨s_calls (idx := 5) (k' := k_X9_within) q5_50 q5_48 q5_49 q1_10 de_X9_within (by decide) (by decide +kernel) rfl, ?_⟩
  refine List.forall_mem_cons.mpr ⟨s_if_ne (off := 5) (by decide +kernel) (by decide) rfl, ?_⟩
  refine List.forall_mem_cons.mpr ⟨s_iconst (by decide +kernel) rfl, ?_⟩
  refine List.forall_mem_cons.mpr ⟨s_iret rfl (by decide +kernel), ?_⟩
  refine List.forall_mem_cons.mpr ⟨s_aload_n (j := 0) (by decide +kernel) rfl rfl, ?_⟩
  refine List.forall_mem_cons.mpr ⟨s_iload_n (j := 1) (by decide +kernel) rfl rfl, ?_⟩
  refine List.forall_mem_cons.mpr ⟨s_iload_n (j := 3) (by decide +kernel) rfl rfl, ?_⟩
  refine List.forall_mem_cons.mpr ⟨s_iload (by decide +kernel) rfl, ?_⟩
  refine List.forall_mem_cons.mpr ⟨s_callv (idx := 260) (k' := k_X9_reach) (T := TX9) (N := 54) rfl q5_188 q5_185 q5_187 qs_48 q1_10 de_X9_reach (by decide) (by decide +kernel) rfl, ?_⟩
  refine List.forall_mem_cons.mpr ⟨s_iconst (by decide +kernel) rfl, ?_⟩
  refine List.forall_mem_cons.mpr ⟨s_istore (by decide +kernel) (by decide) rfl, ?_⟩
  refine List.forall_mem_cons.mpr ⟨s_iload (by decide +kernel) rfl, ?_⟩
  refine List.forall_mem_cons.mpr ⟨s_aload_n (j := 0) (by decide +kernel) rfl rfl, ?_⟩
  refine List.forall_mem_cons.mpr ⟨s_getf (idx := 181) (C := RX9) (T := TX9) (N := 54) rfl inX9 (by decide) q4_131 (by decide +kernel) rfl, ?_⟩
  refine List.forall_mem_cons.mpr ⟨s_icmp_ge (off := 48) (by decide +kernel) (by decide) rfl, ?_⟩
  refine List.forall_mem_cons.mpr ⟨s_iconst (by decide +kernel) rfl, ?_⟩
  refine List.forall_mem_cons.mpr ⟨s_istore (by decide +kernel) (by decide) rfl, ?_⟩
  refine List.forall_mem_cons.mpr ⟨s_iload (by decide +kernel) rfl, ?_⟩
  refine List.forall_mem_cons.mpr ⟨s_sipush (by decide +kernel) (by decide) rfl, ?_⟩
  refine List.forall_mem_cons.mpr ⟨s_icmp_ge (off := 31) (by decide +kernel) (by decide) rfl, ?_⟩
  refine List.forall_mem_cons.mpr ⟨s_aload_n (j := 0) (by decide +kernel) rfl rfl, ?_⟩
  refine List.forall_mem_cons.mpr ⟨s_getf (idx := 89) (C := RX9) (T := TX9) (N := 54) rfl inX9 (by decide) q4_147 (by decide +kernel) rfl, ?_⟩
  refine List.forall_mem_cons.mpr ⟨s_sipush (by decide +kernel) (by decide) rfl, ?_⟩
  refine List.forall_mem_cons.mpr ⟨s_iload (by decide +kernel) rfl, ?_⟩
  refine List.forall_mem_cons.mpr ⟨s_imul (by decide +kernel) rfl, ?_⟩
  refine List.forall_mem_cons.mpr ⟨s_iload (by decide +kernel) rfl, ?_⟩
  refine List.forall_mem_cons.mpr ⟨s_iadd (by decide +kernel) rfl, ?_⟩
  refine List.forall_mem_cons.mpr ⟨s_aload_n (j := 0) (by decide +kernel) rfl rfl, ?_⟩
  refine List.forall_mem_cons.mpr ⟨s_iload (by decide +kernel) rfl, ?_⟩
  refine List.forall_mem_cons.mpr ⟨s_iload (by decide +kernel) rfl, ?_⟩
  refine List.forall_mem_cons.mpr ⟨s_callv (idx := 246) (k' := k_X9_isAt) (T := TX9) (N := 54) rfl q5_211 q5_208 q5_210 qs_53 q1_10 de_X9_isAt (by decide) (by decide +kernel) rfl, ?_⟩
  refine List.forall_mem_cons.mpr ⟨s_bast (by decide +kernel) rfl, ?_⟩
  refine List.forall_mem_cons.mpr ⟨s_iinc (by decide +kernel) (by decide) rfl, ?_⟩
  refine List.forall_mem_cons.mpr ⟨s_goto (off := (-33)) (by decide +kernel) (by decide), ?_⟩
  refine List.forall_mem_cons.mpr ⟨s_iinc (by decide +kernel) (by decide) rfl, ?_⟩
  refine List.forall_mem_cons.mpr ⟨s_goto (off := (-51)) (by decide +kernel) (by decide), ?_⟩
  refine List.forall_mem_cons.mpr ⟨s_aload_n (j := 0) (by decide +kernel) rfl rfl, ?_⟩
  refine List.forall_mem_cons.mpr ⟨s_iload_n (j := 2) (by decide +kernel) rfl rfl, ?_⟩
  refine List.forall_mem_cons.mpr ⟨s_iload_n (j := 3) (by decide +kernel) rfl rfl, ?_⟩
  refine List.forall_mem_cons.mpr ⟨s_iload (by decide +kernel) rfl, ?_⟩
  refine List.forall_mem_cons.mpr ⟨s_callv (idx := 260) (k' := k_X9_reach) (T := TX9) (N := 54) rfl q5_188 q5_185 q5_187 qs_48 q1_10 de_X9_reach (by decide) (by decide +kernel) rfl, ?_⟩
  refine List.forall_mem_cons.mpr ⟨s_iconst (by decide +kernel) rfl, ?_⟩
  refine List.forall_mem_cons.mpr ⟨s_istore (by decide +kernel) (by decide) rfl, ?_⟩
  refine List.forall_mem_cons.mpr ⟨s_iload (by decide +kernel) rfl, ?_⟩
  refine List.forall_mem_cons.mpr ⟨s_sipush (by decide +kernel) (by decide) rfl, ?_⟩
  refine List.forall_mem_cons.mpr ⟨s_icmp_ge (off := 68) (by decide +kernel) (by decide) rfl, ?_⟩
  refine List.forall_mem_cons.mpr ⟨s_iconst (by decide +kernel) rfl, ?_⟩
  refine List.forall_mem_cons.mpr ⟨s_istore (by decide +kernel) (by decide) rfl, ?_⟩
  refine List.forall_mem_cons.mpr ⟨s_iload (by decide +kernel) rfl, ?_⟩
  refine List.forall_mem_cons.mpr ⟨s_aload_n (j := 0) (by decide +kernel) rfl rfl, ?_⟩
  refine List.forall_mem_cons.mpr ⟨s_getf (idx := 181) (C := RX9) (T := TX9) (N := 54) rfl inX9 (by decide) q4_131 (by decide +kernel) rfl, ?_⟩
  refine List.forall_mem_cons.mpr ⟨s_icmp_ge (off := 50) (by decide +kernel) (by decide) rfl, ?_⟩
  refine List.forall_mem_cons.mpr ⟨s_aload_n (j := 0) (by decide +kernel) rfl rfl, ?_⟩
  refine List.forall_mem_cons.mpr ⟨s_getf (idx := 89) (C := RX9) (T := TX9) (N := 54) rfl inX9 (by decide) q4_147 (by decide +kernel) rfl, ?_⟩
  refine List.forall_mem_cons.mpr ⟨s_sipush (by decide +kernel) (by decide) rfl, ?_⟩
  refine List.forall_mem_cons.mpr ⟨s_iload (by decide +kernel) rfl, ?_⟩
  refine List.forall_mem_cons.mpr ⟨s_imul (by decide +kernel) rfl, ?_⟩
  refine List.forall_mem_cons.mpr ⟨s_iload (by decide +kernel) rfl, ?_⟩
  refine List.forall_mem_cons.mpr ⟨s_iadd (by decide +kernel) rfl, ?_⟩
  refine List.forall_mem_cons.mpr ⟨s_bald (by decide +kernel) rfl, ?_⟩
  refine List.forall_mem_cons.mpr ⟨s_if_eq (off := 27) (by decide +kernel) (by decide) rfl, ?_⟩
  refine List.forall_mem_cons.mpr ⟨s_aload_n (j := 0) (by decide +kernel) rfl rfl, ?_⟩
  refine List.forall_mem_cons.mpr ⟨s_iload (by decide +kernel) rfl, ?_⟩
  refine List.forall_mem_cons.mpr ⟨s_iload (by decide +kernel) rfl, ?_⟩
  refine List.forall_mem_cons.mpr ⟨s_callv (idx := 246) (k' := k_X9_isAt) (T := TX9) (N := 54) rfl q5_211 q5_208 q5_210 qs_53 q1_10 de_X9_isAt (by decide) (by decide +kernel) rfl, ?_⟩
  refine List.forall_mem_cons.mpr ⟨s_if_eq (off := 16) (by decide +kernel) (by decide) rfl, ?_⟩
  refine List.forall_mem_cons.mpr ⟨s_iload (by decide +kernel) rfl, ?_⟩
  refine List.forall_mem_cons.mpr ⟨s_if_ne (off := 8) (by decide +kernel) (by decide) rfl, ?_⟩
  refine List.forall_mem_cons.mpr ⟨s_iload (by decide +kernel) rfl, ?_⟩
  refine List.forall_mem_cons.mpr ⟨s_goto (off := 5) (by decide +kernel) (by decide), ?_⟩
  refine List.forall_mem_cons.mpr ⟨s_iload (by decide +kernel) rfl, ?_⟩
  refine List.forall_mem_cons.mpr ⟨s_iret rfl (by decide +kernel), ?_⟩
  refine List.forall_mem_cons.mpr ⟨s_iinc (by decide +kernel) (by decide) rfl, ?_⟩
  refine List.forall_mem_cons.mpr ⟨s_goto (off := (-53)) (by decide +kernel) (by decide), ?_⟩
  refine List.forall_mem_cons.mpr ⟨s_iinc (by decide +kernel) (by decide) rfl, ?_⟩
  refine List.forall_mem_cons.mpr ⟨s_goto (off := (-70)) (by decide +kernel) (by decide), ?_⟩
  refine List.forall_mem_cons.mpr ⟨s_bipush (by decide +kernel) (by decide) rfl, ?_⟩
  refine List.forall_mem_cons.mpr ⟨s_iret rfl (by decide +kernel), ?_⟩
  exact fun q hq => absurd hq List.not_mem_nil
def T_X9_soonOrNever : List (Nat × zO) := [(0, o_aload 1 0), (1, o_iload 2 1), (2, o_iload 3 3), (3, o_aload 4 0), (4, o_callv 0 9 k_X9_allWinds 7), (7, o_callv 3 9 k_X9_reach 10), (10, o_aload 11 0), (11, o_iload 12 2), (12, o_callv 1 9 k_X9_soonAt 15), (15, o_istore 17 4), (17, o_iload 19 4), (19, o_if_ge 28 22), (22, o_const 25 1440), (25, o_goto 30), (28, o_iload 30 4), (30, o_iret)]
set_option maxRecDepth 20000 in
theorem t_X9_soonOrNever : ∀ q ∈ T_X9_soonOrNever, zS k_X9_soonOrNever q.1 q.2 := by
  unfold T_X9_soonOrNever
  refine List.forall_mem_cons.mpr ⟨s_aload_n (j := 0) (by decide +kernel) rfl rfl, ?_⟩
  refine List.forall_mem_cons.mpr ⟨s_iload_n (j := 1) (by decide +kernel) rfl rfl, ?_⟩
  refine List.forall_mem_cons.mpr ⟨s_iload_n (j := 3) (by decide +kernel) rfl rfl, ?_⟩
  refine List.forall_mem_cons.mpr ⟨s_aload_n (j := 0) (by decide +kernel) rfl rfl, ?_⟩
  refine List.forall_mem_cons.mpr ⟨s_callv (idx := 276) (k' := k_X9_allWinds) (T := TX9) (N := 54) rfl q5_235 q5_232 q5_234 qs_57 q1_10 de_X9_allWinds (by decide) (by decide +kernel) rfl, ?_⟩
  refine List.forall_mem_cons.mpr ⟨s_callv (idx := 260) (k' := k_X9_reach) (T := TX9) (N := 54) rfl q5_188 q5_185 q5_187 qs_48 q1_10 de_X9_reach (by decide) (by decide +kernel) rfl, ?_⟩
  refine List.forall_mem_cons.mpr ⟨s_aload_n (j := 0) (by decide +kernel) rfl rfl, ?_⟩
  refine List.forall_mem_cons.mpr ⟨s_iload_n (j := 2) (by decide +kernel) rfl rfl, ?_⟩
  refine List.forall_mem_cons.mpr ⟨s_callv (idx := 263) (k' := k_X9_soonAt) (T := TX9) (N := 54) rfl q5_207 q5_204 q5_206 qs_52 q1_10 de_X9_soonAt (by decide) (by decide +kernel) rfl, ?_⟩
  refine List.forall_mem_cons.mpr ⟨s_istore (by decide +kernel) (by decide) rfl, ?_⟩
  refine List.forall_mem_cons.mpr ⟨s_iload (by decide +kernel) rfl, ?_⟩
  refine List.forall_mem_cons.mpr ⟨s_if_ge (off := 9) (by decide +kernel) (by decide) rfl, ?_⟩
  refine List.forall_mem_cons.mpr ⟨s_sipush (by decide +kernel) (by decide) rfl, ?_⟩
  refine List.forall_mem_cons.mpr ⟨s_goto (off := 5) (by decide +kernel) (by decide), ?_⟩
  refine List.forall_mem_cons.mpr ⟨s_iload (by decide +kernel) rfl, ?_⟩
  refine List.forall_mem_cons.mpr ⟨s_iret rfl (by decide +kernel), ?_⟩
  exact fun q hq => absurd hq List.not_mem_nil
def T_X9_worth : List (Nat × zO) := [(0, o_aload 1 0), (1, o_iload 2 1), (2, o_callv 1 9 k_X9_isWay 5), (5, o_if_eq 33 8), (8, o_aload 9 0), (9, o_iload 10 2), (10, o_callv 1 9 k_X9_isFrom 13), (13, o_if_eq 33 16), (16, o_aload 17 0), (17, o_iload 18 3), (18, o_callv 1 9 k_X9_isPlace 21), (21, o_if_eq 33 24), (24, o_aload 25 0), (25, o_iload 27 4), (27, o_callv 1 9 k_X9_isSt 30), (30, o_if_ne 35 33), (33, o_const 34 (-1)), (34, o_iret), (35, o_aload 36 0), (36, o_iload 37 2), (37, o_iload 38 3), (38, o_iload 40 4), (40, o_callv 3 9 k_X9_soonOrNever 43), (43, o_istore 45 5), (45, o_aload 46 0), (46, o_iload 47 1), (47, o_putf 50 9 31), (50, o_aload 51 0), (51, o_iload 52 2), (52, o_iload 53 3), (53, o_iload 55 4), (55, o_callv 3 9 k_X9_soonOrNever 58), (58, o_istore 60 6), (60, o_aload 61 0), (61, o_const 62 (-1)), (62, o_putf 65 9 31), (65, o_iload 67 5), (67, o_iload 69 6), (69, o_isub 70), (70, o_iret)]
set_option maxRecDepth 20000 in
theorem t_X9_worth : ∀ q ∈ T_X9_worth, zS k_X9_worth q.1 q.2 := by
  unfold T_X9_worth
  refine List.forall_mem_cons.mpr ⟨s_aload_n (j := 0) (by decide +kernel) rfl rfl, ?_⟩
  refine List.forall_mem_cons.mpr ⟨s_iload_n (j := 1) (by decide +kernel) rfl rfl, ?_⟩
  refine List.forall_mem_cons.mpr ⟨s_callv (idx := 200) (k' := k_X9_isWay) (T := TX9) (N := 54) rfl q5_133 q5_130 q5_132 qs_41 q1_10 de_X9_isWay (by decide) (by decide +kernel) rfl, ?_⟩
  refine List.forall_mem_cons.mpr ⟨s_if_eq (off := 28) (by decide +kernel) (by decide) rfl, ?_⟩
  refine List.forall_mem_cons.mpr ⟨s_aload_n (j := 0) (by decide +kernel) rfl rfl, ?_⟩
  refine List.forall_mem_cons.mpr ⟨s_iload_n (j := 2) (by decide +kernel) rfl rfl, ?_⟩
  refine List.forall_mem_cons.mpr ⟨s_callv (idx := 257) (k' := k_X9_isFrom) (T := TX9) (N := 54) rfl q5_184 q5_181 q5_183 qs_47 q1_10 de_X9_isFrom (by decide) (by decide +kernel) rfl, ?_⟩
  refine List.forall_mem_cons.mpr ⟨s_if_eq (off := 20) (by decide +kernel) (by decide) rfl, ?_⟩
  refine List.forall_mem_cons.mpr ⟨s_aload_n (j := 0) (by decide +kernel) rfl rfl, ?_⟩
  refine List.forall_mem_cons.mpr ⟨s_iload_n (j := 3) (by decide +kernel) rfl rfl, ?_⟩
  refine List.forall_mem_cons.mpr ⟨s_callv (idx := 189) (k' := k_X9_isPlace) (T := TX9) (N := 54) rfl q5_116 q5_113 q5_115 qs_39 q1_10 de_X9_isPlace (by decide) (by decide +kernel) rfl, ?_⟩
  refine List.forall_mem_cons.mpr ⟨s_if_eq (off := 12) (by decide +kernel) (by decide) rfl, ?_⟩
  refine List.forall_mem_cons.mpr ⟨s_aload_n (j := 0) (by decide +kernel) rfl rfl, ?_⟩
  refine List.forall_mem_cons.mpr ⟨s_iload (by decide +kernel) rfl, ?_⟩
  refine List.forall_mem_cons.mpr ⟨s_callv (idx := 249) (k' := k_X9_isSt) (T := TX9) (N := 54) rfl q5_163 q5_160 q5_162 qs_43 q1_10 de_X9_isSt (by decide) (by decide +kernel) rfl, ?_⟩
  refine List.forall_mem_cons.mpr ⟨s_if_ne (off := 5) (by decide +kernel) (by decide) rfl, ?_⟩
  refine List.forall_mem_cons.mpr ⟨s_iconst (by decide +kernel) rfl, ?_⟩
  refine List.forall_mem_cons.mpr ⟨s_iret rfl (by decide +kernel), ?_⟩
  refine List.forall_mem_cons.mpr ⟨s_aload_n (j := 0) (by decide +kernel) rfl rfl, ?_⟩
  refine List.forall_mem_cons.mpr ⟨s_iload_n (j := 2) (by decide +kernel) rfl rfl, ?_⟩
  refine List.forall_mem_cons.mpr ⟨s_iload_n (j := 3) (by decide +kernel) rfl rfl, ?_⟩
  refine List.forall_mem_cons.mpr ⟨s_iload (by decide +kernel) rfl, ?_⟩
  refine List.forall_mem_cons.mpr ⟨s_callv (idx := 286) (k' := k_X9_soonOrNever) (T := TX9) (N := 54) rfl q6_19 q6_16 q6_18 qs_60 q1_10 de_X9_soonOrNever (by decide) (by decide +kernel) rfl, ?_⟩
  refine List.forall_mem_cons.mpr ⟨s_istore (by decide +kernel) (by decide) rfl, ?_⟩
  refine List.forall_mem_cons.mpr ⟨s_aload_n (j := 0) (by decide +kernel) rfl rfl, ?_⟩
  refine List.forall_mem_cons.mpr ⟨s_iload_n (j := 1) (by decide +kernel) rfl rfl, ?_⟩
  refine List.forall_mem_cons.mpr ⟨s_putf (idx := 75) (C := RX9) (T := TX9) (N := 54) rfl inX9 tyX9_ok nmX9 (by decide) rfl (tyX9_ok 31 (by decide)) (Or.inl ⟨rfl, kdI 9 31 (by decide)⟩) q4_142 (by decide +kernel) rfl, ?_⟩
  refine List.forall_mem_cons.mpr ⟨s_aload_n (j := 0) (by decide +kernel) rfl rfl, ?_⟩
  refine List.forall_mem_cons.mpr ⟨s_iload_n (j := 2) (by decide +kernel) rfl rfl, ?_⟩
  refine List.forall_mem_cons.mpr ⟨s_iload_n (j := 3) (by decide +kernel) rfl rfl, ?_⟩
  refine List.forall_mem_cons.mpr ⟨s_iload (by decide +kernel) rfl, ?_⟩
  refine List.forall_mem_cons.mpr ⟨s_callv (idx := 286) (k' := k_X9_soonOrNever) (T := TX9) (N := 54) rfl q6_19 q6_16 q6_18 qs_60 q1_10 de_X9_soonOrNever (by decide) (by decide +kernel) rfl, ?_⟩
  refine List.forall_mem_cons.mpr ⟨s_istore (by decide +kernel) (by decide) rfl, ?_⟩
  refine List.forall_mem_cons.mpr ⟨s_aload_n (j := 0) (by decide +kernel) rfl rfl, ?_⟩
  refine List.forall_mem_cons.mpr ⟨s_iconst (by decide +kernel) rfl, ?_⟩
  refine List.forall_mem_cons.mpr ⟨s_putf (idx := 75) (C := RX9) (T := TX9) (N := 54) rfl inX9 tyX9_ok nmX9 (by decide) rfl (tyX9_ok 31 (by decide)) (Or.inl ⟨rfl, kdI 9 31 (by decide)⟩) q4_142 (by decide +kernel) rfl, ?_⟩
  refine List.forall_mem_cons.mpr ⟨s_iload (by decide +kernel) rfl, ?_⟩
  refine List.forall_mem_cons.mpr ⟨s_iload (by decide +kernel) rfl, ?_⟩
  refine List.forall_mem_cons.mpr ⟨s_isub (by decide +kernel) rfl, ?_⟩
  refine List.forall_mem_cons.mpr ⟨s_iret rfl (by decide +kernel), ?_⟩
  exact fun q hq => absurd hq List.not_mem_nil
def T_X9_isSooner : List (Nat × zO) := [(0, o_aload 1 0), (1, o_iload 2 1), (2, o_putf 5 9 32), (5, o_aload 6 0), (6, o_iload 7 2), (7, o_putf 10 9 33), (10, o_aload 11 0), (11, o_iload 12 3), (12, o_iload 14 4), (14, o_iload 16 5), (16, o_callv 3 9 k_X9_soonOrNever 19), (19, o_istore 21 7), (21, o_aload 22 0), (22, o_const 23 (-1)), (23, o_putf 26 9 32), (26, o_iload 28 7), (28, o_iload 30 6), (30, o_icmp_ge 37 33), (33, o_const 34 1), (34, o_goto 38), (37, o_const 38 0), (38, o_zret)]
set_option maxRecDepth 20000 in
theorem t_X9_isSooner : ∀ q ∈ T_X9_isSooner, zS k_X9_isSooner q.1 q.2 := by
  unfold T_X9_isSooner
  refine List.forall_mem_cons.mpr ⟨s_aload_n (j := 0) (by decide +kernel) rfl rfl, ?_⟩
  refine List.forall_mem_cons.mpr ⟨s_iload_n (j := 1) (by decide +kernel) rfl rfl, ?_⟩
  refine List.forall_mem_cons.mpr ⟨s_putf (idx := 79) (C := RX9) (T := TX9) (N := 54) rfl inX9 tyX9_ok nmX9 (by decide) rfl (tyX9_ok 32 (by decide)) (Or.inl ⟨rfl, kdI 9 32 (by decide)⟩) q4_143 (by decide +kernel) rfl, ?_⟩
  refine List.forall_mem_cons.mpr ⟨s_aload_n (j := 0) (by decide +kernel) rfl rfl, ?_⟩
  refine List.forall_mem_cons.mpr ⟨s_iload_n (j := 2) (by decide +kernel) rfl rfl, ?_⟩
  refine List.forall_mem_cons.mpr ⟨s_putf (idx := 221) (C := RX9) (T := TX9) (N := 54) rfl inX9 tyX9_ok nmX9 (by decide) rfl (tyX9_ok 33 (by decide)) (Or.inl ⟨rfl, kdI 9 33 (by decide)⟩) q4_144 (by decide +kernel) rfl, ?_⟩
  refine List.forall_mem_cons.mpr ⟨s_aload_n (j := 0) (by decide +kernel) rfl rfl, ?_⟩
  refine List.forall_mem_cons.mpr ⟨s_iload_n (j := 3) (by decide +kernel) rfl rfl, ?_⟩
  refine List.forall_mem_cons.mpr ⟨s_iload (by decide +kernel) rfl, ?_⟩
  refine List.forall_mem_cons.mpr ⟨s_iload (by decide +kernel) rfl, ?_⟩
  refine List.forall_mem_cons.mpr ⟨s_callv (idx := 286) (k' := k_X9_soonOrNever) (T := TX9) (N := 54) rfl q6_19 q6_16 q6_18 qs_60 q1_10 de_X9_soonOrNever (by decide) (by decide +kernel) rfl, ?_⟩
  refine List.forall_mem_cons.mpr ⟨s_istore (by decide +kernel) (by decide) rfl, ?_⟩
  refine List.forall_mem_cons.mpr ⟨s_aload_n (j := 0) (by decide +kernel) rfl rfl, ?_⟩
  refine List.forall_mem_cons.mpr ⟨s_iconst (by decide +kernel) rfl, ?_⟩
  refine List.forall_mem_cons.mpr ⟨s_putf (idx := 79) (C := RX9) (T := TX9) (N := 54) rfl inX9 tyX9_ok nmX9 (by decide) rfl (tyX9_ok 32 (by decide)) (Or.inl ⟨rfl, kdI 9 32 (by decide)⟩) q4_143 (by decide +kernel) rfl, ?_⟩
  refine List.forall_mem_cons.mpr ⟨s_iload (by decide +kernel) rfl, ?_⟩
  refine List.forall_mem_cons.mpr ⟨s_iload (by decide +kernel) rfl, ?_⟩
  refine List.forall_mem_cons.mpr ⟨s_icmp_ge (off := 7) (by decide +kernel) (by decide) rfl, ?_⟩
  refine List.forall_mem_cons.mpr ⟨s_iconst (by decide +kernel) rfl, ?_⟩
  refine List.forall_mem_cons.mpr ⟨s_goto (off := 4) (by decide +kernel) (by decide), ?_⟩
  refine List.forall_mem_cons.mpr ⟨s_iconst (by decide +kernel) rfl, ?_⟩
  refine List.forall_mem_cons.mpr ⟨s_zret rfl (by decide +kernel), ?_⟩
  exact fun q hq => absurd hq List.not_mem_nil
def T_X9_higher : List (Nat × zO) := [(0, o_aload 1 0), (1, o_iload 2 1), (2, o_callv 1 9 k_X9_isWay 5), (5, o_if_eq 33 8), (8, o_aload 9 0), (9, o_iload 10 2), (10, o_callv 1 9 k_X9_isFrom 13), (13, o_if_eq 33 16), (16, o_aload 17 0), (17, o_iload 18 3), (18, o_callv 1 9 k_X9_isPlace 21), (21, o_if_eq 33 24), (24, o_aload 25 0), (25, o_iload 27 4), (27, o_callv 1 9 k_X9_isSt 30), (30, o_if_ne 35 33), (33, o_const 34 (-1)), (34, o_iret), (35, o_aload 36 0), (36, o_iload 37 2), (37, o_iload 38 3), (38, o_iload 40 4), (40, o_callv 3 9 k_X9_soonOrNever 43), (43, o_istore 45 5), (45, o_aload 46 0), (46, o_iload 47 1), (47, o_const 50 200), (50, o_iload 51 2), (51, o_iload 52 3), (52, o_iload 54 4), (54, o_iload 56 5), (56, o_callv 6 9 k_X9_isSooner 59), (59, o_if_ne 65 62), (62, o_const 64 (-2)), (64, o_iret), (65, o_const 66 0), (66, o_istore 68 6), (68, o_const 71 200), (71, o_istore 73 7), (73, o_iload 75 7), (75, o_iload 77 6), (77, o_isub 78), (78, o_const 79 1), (79, o_icmp_le 121 82), (82, o_iload 84 6), (84, o_iload 86 7), (86, o_iadd 87), (87, o_const 88 2), (88, o_idiv 89), (89, o_istore 91 8), (91, o_aload 92 0), (92, o_iload 93 1), (93, o_iload 95 8), (95, o_iload 96 2), (96, o_iload 97 3), (97, o_iload 99 4), (99, o_iload 101 5), (101, o_callv 6 9 k_X9_isSooner 104), (104, o_if_eq 114 107), (107, o_iload 109 8), (109, o_istore 111 7), (111, o_goto 118), (114, o_iload 116 8), (116, o_istore 118 6), (118, o_goto 73), (121, o_iload 123 7), (123, o_iret)]
set_option maxRecDepth 20000 in
theorem t_X9_higher : ∀ q ∈ T_X9_higher, zS k_X9_higher q.1 q.2 := by
  unfold T_X9_higher
  refine List.forall_mem_cons.mpr ⟨s_aload_n (j := 0) (by decide +kernel) rfl rfl, ?_⟩
  refine List.forall_mem_cons.mpr ⟨s_iload_n (j := 1) (by decide +kernel) rfl rfl, ?_⟩
  refine List.forall_mem_cons.mpr ⟨s_callv (idx := 200) (k' := k_X9_isWay) (T := TX9) (N := 54) rfl q5_133 q5_130 q5_132 qs_41 q1_10 de_X9_isWay (by decide) (by decide +kernel) rfl, ?_⟩
  refine List.forall_mem_cons.mpr ⟨s_if_eq (off := 28) (by decide +kernel) (by decide) rfl, ?_⟩
  refine List.forall_mem_cons.mpr ⟨s_aload_n (j := 0) (by decide +kernel) rfl rfl, ?_⟩
  refine List.forall_mem_cons.mpr ⟨s_iload_n (j := 2) (by decide +kernel) rfl rfl, ?_⟩
  refine List.forall_mem_cons.mpr ⟨s_callv (idx := 257) (k' := k_X9_isFrom) (T := TX9) (N := 54) rfl q5_184 q5_181 q5_183 qs_47 q1_10 de_X9_isFrom (by decide) (by decide +kernel) rfl, ?_⟩
  refine List.forall_mem_cons.mpr ⟨s_if_eq (off := 20) (by decide +kernel) (by decide) rfl, ?_⟩
  refine List.forall_mem_cons.mpr ⟨s_aload_n (j := 0) (by decide +kernel) rfl rfl, ?_⟩
  refine List.forall_mem_cons.mpr ⟨s_iload_n (j := 3) (by decide +kernel) rfl rfl, ?_⟩
  refine List.forall_mem_cons.mpr ⟨s_callv (idx := 189) (k' := k_X9_isPlace) (T := TX9) (N := 54) rfl q5_116 q5_113 q5_115 qs_39 q1_10 de_X9_isPlace (by decide) (by decide +kernel) rfl, ?_⟩
  refine List.forall_mem_cons.mpr ⟨s_if_eq (off := 12) (by decide +kernel) (by decide) rfl, ?_⟩
  refine List.forall_mem_cons.mpr ⟨s_aload_n (j := 0) (by decide +kernel) rfl rfl, ?_⟩
  refine List.forall_mem_cons.mpr ⟨s_iload (by decide +kernel) rfl, ?_⟩
  refine List.forall_mem_cons.mpr ⟨s_callv (idx := 249) (k' := k_X9_isSt) (T := TX9) (N := 54) rfl q5_163 q5_160 q5_162 qs_43 q1_10 de_X9_isSt (by decide) (by decide +kernel) rfl, ?_⟩
  refine List.forall_mem_cons.mpr ⟨s_if_ne (off := 5) (by decide +kernel) (by decide) rfl, ?_⟩
  refine List.forall_mem_cons.mpr ⟨s_iconst (by decide +kernel) rfl, ?_⟩
  refine List.forall_mem_cons.mpr ⟨s_iret rfl (by decide +kernel), ?_⟩
  refine List.forall_mem_cons.mpr ⟨s_aload_n (j := 0) (by decide +kernel) rfl rfl, ?_⟩
  refine List.forall_mem_cons.mpr ⟨s_iload_n (j := 2) (by decide +kernel) rfl rfl, ?_⟩
  refine List.forall_mem_cons.mpr ⟨s_iload_n (j := 3) (by decide +kernel) rfl rfl, ?_⟩
  refine List.forall_mem_cons.mpr ⟨s_iload (by decide +kernel) rfl, ?_⟩
  refine List.forall_mem_cons.mpr ⟨s_callv (idx := 286) (k' := k_X9_soonOrNever) (T := TX9) (N := 54) rfl q6_19 q6_16 q6_18 qs_60 q1_10 de_X9_soonOrNever (by decide) (by decide +kernel) rfl, ?_⟩
  refine List.forall_mem_cons.mpr ⟨s_istore (by decide +kernel) (by decide) rfl, ?_⟩
  refine List.forall_mem_cons.mpr ⟨s_aload_n (j := 0) (by decide +kernel) rfl rfl, ?_⟩
  refine List.forall_mem_cons.mpr ⟨s_iload_n (j := 1) (by decide +kernel) rfl rfl, ?_⟩
  refine List.forall_mem_cons.mpr ⟨s_sipush (by decide +kernel) (by decide) rfl, ?_⟩
  refine List.forall_mem_cons.mpr ⟨s_iload_n (j := 2) (by decide +kernel) rfl rfl, ?_⟩
  refine List.forall_mem_cons.mpr ⟨s_iload_n (j := 3) (by decide +kernel) rfl rfl, ?_⟩
  refine List.forall_mem_cons.mpr ⟨s_iload (by decide +kernel) rfl, ?_⟩
  refine List.forall_mem_cons.mpr ⟨s_iload (by decide +kernel) rfl, ?_⟩
  refine List.forall_mem_cons.mpr ⟨s_callv (idx := 289) (k' := k_X9_isSooner) (T := TX9) (N := 54) rfl q6_27 q6_24 q6_26 qs_61 q1_10 de_X9_isSooner (by decide) (by decide +kernel) rfl, ?_⟩
  refine List.forall_mem_cons.mpr ⟨s_if_ne (off := 6) (by decide +kernel) (by decide) rfl, ?_⟩
  refine List.forall_mem_cons.mpr ⟨s_bipush (by decide +kernel) (by decide) rfl, ?_⟩
  refine List.forall_mem_cons.mpr ⟨s_iret rfl (by decide +kernel), ?_⟩
  refine List.forall_mem_cons.mpr ⟨s_iconst (by decide +kernel) rfl, ?_⟩
  refine List.forall_mem_cons.mpr ⟨s_istore (by decide +kernel) (by decide) rfl, ?_⟩
  refine List.forall_mem_cons.mpr ⟨s_sipush (by decide +kernel) (by decide) rfl, ?_⟩
  refine List.forall_mem_cons.mpr ⟨s_istore (by decide +kernel) (by decide) rfl, ?_⟩
  refine List.forall_mem_cons.mpr ⟨s_iload (by decide +kernel) rfl, ?_⟩
  refine List.forall_mem_cons.mpr ⟨s_iload (by decide +kernel) rfl, ?_⟩
  refine List.forall_mem_cons.mpr ⟨s_isub (by decide +kernel) rfl, ?_⟩
  refine List.forall_mem_cons.mpr ⟨s_iconst (by decide +kernel) rfl, ?_⟩
  refine List.forall_mem_cons.mpr ⟨s_icmp_le (off := 42) (by decide +kernel) (by decide) rfl, ?_⟩
  refine List.forall_mem_cons.mpr ⟨s_iload (by decide +kernel) rfl, ?_⟩
  refine List.forall_mem_cons.mpr ⟨s_iload (by decide +kernel) rfl, ?_⟩
  refine List.forall_mem_cons.mpr ⟨s_iadd (by decide +kernel) rfl, ?_⟩
  refine List.forall_mem_cons.mpr ⟨s_iconst (by decide +kernel) rfl, ?_⟩
  refine List.forall_mem_cons.mpr ⟨s_idiv (by decide +kernel) rfl, ?_⟩
  refine List.forall_mem_cons.mpr ⟨s_istore (by decide +kernel) (by decide) rfl, ?_⟩
  refine List.forall_mem_cons.mpr ⟨s_aload_n (j := 0) (by decide +kernel) rfl rfl, ?_⟩
  refine List.forall_mem_cons.mpr ⟨s_iload_n (j := 1) (by decide +kernel) rfl rfl, ?_⟩
  refine List.forall_mem_cons.mpr ⟨s_iload (by decide +kernel) rfl, ?_⟩
  refine List.forall_mem_cons.mpr ⟨s_iload_n (j := 2) (by decide +kernel) rfl rfl, ?_⟩
  refine List.forall_mem_cons.mpr ⟨s_iload_n (j := 3) (by decide +kernel) rfl rfl, ?_⟩
  refine List.forall_mem_cons.mpr ⟨s_iload (by decide +kernel) rfl, ?_⟩
  refine List.forall_mem_cons.mpr ⟨s_iload (by decide +kernel) rfl, ?_⟩
  refine List.forall_mem_cons.mpr ⟨s_callv (idx := 289) (k' := k_X9_isSooner) (T := TX9) (N := 54) rfl q6_27 q6_24 q6_26 qs_61 q1_10 de_X9_isSooner (by decide) (by decide +kernel) rfl, ?_⟩
  refine List.forall_mem_cons.mpr ⟨s_if_eq (off := 10) (by decide +kernel) (by decide) rfl, ?_⟩
  refine List.forall_mem_cons.mpr ⟨s_iload (by decide +kernel) rfl, ?_⟩
  refine List.forall_mem_cons.mpr ⟨s_istore (by decide +kernel) (by decide) rfl, ?_⟩
  refine List.forall_mem_cons.mpr ⟨s_goto (off := 7) (by decide +kernel) (by decide), ?_⟩
  refine List.forall_mem_cons.mpr ⟨s_iload (by decide +kernel) rfl, ?_⟩
  refine List.forall_mem_cons.mpr ⟨s_istore (by decide +kernel) (by decide) rfl, ?_⟩
  refine List.forall_mem_cons.mpr ⟨s_goto (off := (-45)) (by decide +kernel) (by decide), ?_⟩
  refine List.forall_mem_cons.mpr ⟨s_iload (by decide +kernel) rfl, ?_⟩
  refine List.forall_mem_cons.mpr ⟨s_iret rfl (by decide +kernel), ?_⟩
  exact fun q hq => absurd hq List.not_mem_nil
def T_X9_must : List (Nat × zO) := [(0, o_aload 1 0), (1, o_iload 2 1), (2, o_callv 1 9 k_X9_isFrom 5), (5, o_if_eq 24 8), (8, o_aload 9 0), (9, o_iload 10 2), (10, o_callv 1 9 k_X9_isPlace 13), (13, o_if_eq 24 16), (16, o_aload 17 0), (17, o_iload 18 3), (18, o_callv 1 9 k_X9_isSt 21), (21, o_if_ne 26 24), (24, o_const 25 (-1)), (25, o_iret), (26, o_aload 27 0), (27, o_iload 28 1), (28, o_iload 29 2), (29, o_iload 30 3), (30, o_aload 31 0), (31, o_callv 0 9 k_X9_allWinds 34), (34, o_callv 4 9 k_X9_byDark 37), (37, o_if_ne 43 40), (40, o_const 42 (-2)), (42, o_iret), (43, o_const 44 0), (44, o_istore 46 4), (46, o_const 47 0), (47, o_istore 49 5), (49, o_iload 51 5), (51, o_aload 52 0), (52, o_getf 55 9 20), (55, o_icmp_ge 97 58), (58, o_aload 59 0), (59, o_iload 61 5), (61, o_putf 64 9 34), (64, o_iload 66 4), (66, o_aload 67 0), (67, o_iload 68 1), (68, o_iload 69 2), (69, o_iload 70 3), (70, o_aload 71 0), (71, o_callv 0 9 k_X9_allWinds 74), (74, o_callv 4 9 k_X9_byDark 77), (77, o_if_eq 84 80), (80, o_const 81 0), (81, o_goto 88), (84, o_const 85 1), (85, o_iload 87 5), (87, o_ishl 88), (88, o_ior 89), (89, o_istore 91 4), (91, o_iinc 94 5 1), (94, o_goto 49), (97, o_aload 98 0), (98, o_const 99 (-1)), (99, o_putf 102 9 34), (102, o_iload 104 4), (104, o_iret)]
set_option maxRecDepth 20000 in
theorem t_X9_must : ∀ q ∈ T_X9_must, zS k_X9_must q.1 q.2 := by
  unfold T_X9_must
  refine List.forall_mem_cons.mpr ⟨s_aload_n (j := 0) (by decide +kernel) rfl rfl, ?_⟩
  refine List.forall_mem_cons.mpr ⟨s_iload_n (j := 1) (by decide +kernel) rfl rfl, ?_⟩
  refine List.forall_mem_cons.mpr ⟨s_callv (idx := 257) (k' := k_X9_isFrom) (T := TX9) (N := 54) rfl q5_184 q5_181 q5_183 qs_47 q1_10 de_X9_isFrom (by decide) (by decide +kernel) rfl, ?_⟩
  refine List.forall_mem_cons.mpr ⟨s_if_eq (off := 19) (by decide +kernel) (by decide) rfl, ?_⟩
  refine List.forall_mem_cons.mpr ⟨s_aload_n (j := 0) (by decide +kernel) rfl rfl, ?_⟩
  refine List.forall_mem_cons.mpr ⟨s_iload_n (j := 2) (by decide +kernel) rfl rfl, ?_⟩
  refine List.forall_mem_cons.mpr ⟨s_callv (idx := 189) (k' := k_X9_isPlace) (T := TX9) (N := 54) rfl q5_116 q5_113 q5_115 qs_39 q1_10 de_X9_isPlace (by decide) (by decide +kernel) rfl, ?_⟩
  refine List.forall_mem_cons.mpr ⟨s_if_eq (off := 11) (by decide +kernel) (by decide) rfl, ?_⟩
  refine List.forall_mem_cons.mpr ⟨s_aload_n (j := 0) (by decide +kernel) rfl rfl, ?_⟩
  refine List.forall_mem_cons.mpr ⟨s_iload_n (j := 3) (by decide +kernel) rfl rfl, ?_⟩
  refine List.forall_mem_cons.mpr ⟨s_callv (idx := 249) (k' := k_X9_isSt) (T := TX9) (N := 54) rfl q5_163 q5_160 q5_162 qs_43 q1_10 de_X9_isSt (by decide) (by decide +kernel) rfl, ?_⟩
  refine List.forall_mem_cons.mpr ⟨s_if_ne (off := 5) (by decide +kernel) (by decide) rfl, ?_⟩
  refine List.forall_mem_cons.mpr ⟨s_iconst (by decide +kernel) rfl, ?_⟩
  refine List.forall_mem_cons.mpr ⟨s_iret rfl (by decide +kernel), ?_⟩
  refine List.forall_mem_cons.mpr ⟨s_aload_n (j := 0) (by decide +kernel) rfl rfl, ?_⟩
  refine List.forall_mem_cons.mpr ⟨s_iload_n (j := 1) (by decide +kernel) rfl rfl, ?_⟩
  refine List.forall_mem_cons.mpr ⟨s_iload_n (j := 2) (by decide +kernel) rfl rfl, ?_⟩
  refine List.forall_mem_cons.mpr ⟨s_iload_n (j := 3) (by decide +kernel) rfl rfl, ?_⟩
  refine List.forall_mem_cons.mpr ⟨s_aload_n (j := 0) (by decide +kernel) rfl rfl, ?_⟩
  refine List.forall_mem_cons.mpr ⟨s_callv (idx := 276) (k' := k_X9_allWinds) (T := TX9) (N := 54) rfl q5_235 q5_232 q5_234 qs_57 q1_10 de_X9_allWinds (by decide) (by decide +kernel) rfl, ?_⟩
  refine List.forall_mem_cons.mpr ⟨s_callv (idx := 282) (k' := k_X9_byDark) (T := TX9) (N := 54) rfl q6_3 q6_0 q6_2 qs_59 q1_10 de_X9_byDark (by decide) (by decide +kernel) rfl, ?_⟩
  refine List.forall_mem_cons.mpr ⟨s_if_ne (off := 6) (by decide +kernel) (by decide) rfl, ?_⟩
  refine List.forall_mem_cons.mpr ⟨s_bipush (by decide +kernel) (by decide) rfl, ?_⟩
  refine List.forall_mem_cons.mpr ⟨s_iret rfl (by decide +kernel), ?_⟩
  refine List.forall_mem_cons.mpr ⟨s_iconst (by decide +kernel) rfl, ?_⟩
  refine List.forall_mem_cons.mpr ⟨s_istore (by decide +kernel) (by decide) rfl, ?_⟩
  refine List.forall_mem_cons.mpr ⟨s_iconst (by decide +kernel) rfl, ?_⟩
  refine List.forall_mem_cons.mpr ⟨s_istore (by decide +kernel) (by decide) rfl, ?_⟩
  refine List.forall_mem_cons.mpr ⟨s_iload (by decide +kernel) rfl, ?_⟩
  refine List.forall_mem_cons.mpr ⟨s_aload_n (j := 0) (by decide +kernel) rfl rfl, ?_⟩
  refine List.forall_mem_cons.mpr ⟨s_getf (idx := 181) (C := RX9) (T := TX9) (N := 54) rfl inX9 (by decide) q4_131 (by decide +kernel) rfl, ?_⟩
  refine List.forall_mem_cons.mpr ⟨s_icmp_ge (off := 42) (by decide +kernel) (by decide) rfl, ?_⟩
  refine List.forall_mem_cons.mpr ⟨s_aload_n (j := 0) (by decide +kernel) rfl rfl, ?_⟩
  refine List.forall_mem_cons.mpr ⟨s_iload (by decide +kernel) rfl, ?_⟩
  refine List.forall_mem_cons.mpr ⟨s_putf (idx := 82) (C := RX9) (T := TX9) (N := 54) rfl inX9 tyX9_ok nmX9 (by decide) rfl (tyX9_ok 34 (by decide)) (Or.inl ⟨rfl, kdI 9 34 (by decide)⟩) q4_145 (by decide +kernel) rfl, ?_⟩
  refine List.forall_mem_cons.mpr ⟨s_iload (by decide +kernel) rfl, ?_⟩
  refine List.forall_mem_cons.mpr ⟨s_aload_n (j := 0) (by decide +kernel) rfl rfl, ?_⟩
  refine List.forall_mem_cons.mpr ⟨s_iload_n (j := 1) (by decide +kernel) rfl rfl, ?_⟩
  refine List.forall_mem_cons.mpr ⟨s_iload_n (j := 2) (by decide +kernel) rfl rfl, ?_⟩
  refine List.forall_mem_cons.mpr ⟨s_iload_n (j := 3) (by decide +kernel) rfl rfl, ?_⟩
  refine List.forall_mem_cons.mpr ⟨s_aload_n (j := 0) (by decide +kernel) rfl rfl, ?_⟩
  refine List.forall_mem_cons.mpr ⟨s_callv (idx := 276) (k' := k_X9_allWinds) (T := TX9) (N := 54) rfl q5_235 q5_232 q5_234 qs_57 q1_10 de_X9_allWinds (by decide) (by decide +kernel) rfl, ?_⟩
  refine List.forall_mem_cons.mpr ⟨s_callv (idx := 282) (k' := k_X9_byDark) (T := TX9) (N := 54) rfl q6_3 q6_0 q6_2 qs_59 q1_10 de_X9_byDark (by decide) (by decide +kernel) rfl, ?_⟩
  refine List.forall_mem_cons.mpr ⟨s_if_eq (off := 7) (by decide +kernel) (by decide) rfl, ?_⟩
  refine List.forall_mem_cons.mpr ⟨s_iconst (by decide +kernel) rfl, ?_⟩
  refine List.forall_mem_cons.mpr ⟨s_goto (off := 7) (by decide +kernel) (by decide), ?_⟩
  refine List.forall_mem_cons.mpr ⟨s_iconst (by decide +kernel) rfl, ?_⟩
  refine List.forall_mem_cons.mpr ⟨s_iload (by decide +kernel) rfl, ?_⟩
  refine List.forall_mem_cons.mpr ⟨s_ishl (by decide +kernel) rfl, ?_⟩
  refine List.forall_mem_cons.mpr ⟨s_ior (by decide +kernel) rfl, ?_⟩
  refine List.forall_mem_cons.mpr ⟨s_istore (by decide +kernel) (by decide) rfl, ?_⟩
  refine List.forall_mem_cons.mpr ⟨s_iinc (by decide +kernel) (by decide) rfl, ?_⟩
  refine List.forall_mem_cons.mpr ⟨s_goto (off := (-45)) (by decide +kernel) (by decide), ?_⟩
  refine List.forall_mem_cons.mpr ⟨s_aload_n (j := 0) (by decide +kernel) rfl rfl, ?_⟩
  refine List.forall_mem_cons.mpr ⟨s_iconst (by decide +kernel) rfl, ?_⟩
  refine List.forall_mem_cons.mpr ⟨s_putf (idx := 82) (C := RX9) (T := TX9) (N := 54) rfl inX9 tyX9_ok nmX9 (by decide) rfl (tyX9_ok 34 (by decide)) (Or.inl ⟨rfl, kdI 9 34 (by decide)⟩) q4_145 (by decide +kernel) rfl, ?_⟩
  refine List.forall_mem_cons.mpr ⟨s_iload (by decide +kernel) rfl, ?_⟩
  refine List.forall_mem_cons.mpr ⟨s_iret rfl (by decide +kernel), ?_⟩
  exact fun q hq => absurd hq List.not_mem_nil
def T_X9_move : List (Nat × zO) := [(0, o_aload 1 0), (1, o_iload 2 1), (2, o_callv 1 9 k_X9_isWay 5), (5, o_if_ne 24 8), (8, o_iload 9 1), (9, o_i2l 10), (10, o_lconst 13 (101)), (13, o_lconst 16 (340)), (16, o_calls 3 k_X9_within 19), (19, o_if_ne 24 22), (22, o_const 23 (-1)), (23, o_iret), (24, o_aload 25 0), (25, o_getf 28 9 37), (28, o_const 30 12), (30, o_icmp_ne 36 33), (33, o_const 35 (-3)), (35, o_iret), (36, o_aload 37 0), (37, o_getf 40 9 38), (40, o_aload 41 0), (41, o_getf 44 9 37), (44, o_iload 45 1), (45, o_iast 46), (46, o_aload 47 0), (47, o_dup 48), (48, o_getf 51 9 37), (51, o_const 52 1), (52, o_iadd 53), (53, o_putf 56 9 37), (56, o_aload 57 0), (57, o_getf 60 9 37), (60, o_iret)]
set_option maxRecDepth 20000 in
theorem t_X9_move : ∀ q ∈ T_X9_move, zS k_X9_move q.1 q.2 := by
  unfold T_X9_move
  refine List.forall_mem_cons.mpr ⟨s_aload_n (j := 0) (by decide +kernel) rfl rfl, ?_⟩
  refine List.forall_mem_cons.mpr ⟨s_iload_n (j := 1) (by decide +kernel) rfl rfl, ?_⟩
  refine List.forall_mem_cons.mpr ⟨s_callv (idx := 200) (k' := k_X9_isWay) (T := TX9) (N := 54) rfl q5_133 q5_130 q5_132 qs_41 q1_10 de_X9_isWay (by decide) (by decide +kernel) rfl, ?_⟩
  refine List.forall_mem_cons.mpr ⟨s_if_ne (off := 19) (by decide +kernel) (by decide) rfl, ?_⟩
  refine List.forall_mem_cons.mpr ⟨s_iload_n (j := 1) (by decide +kernel) rfl rfl, ?_⟩
  refine List.forall_mem_cons.mpr ⟨s_i2l (by decide +kernel) rfl, ?_⟩
  refine List.forall_mem_cons.mpr ⟨s_ldc2 (idx := 293) (y := (101)) (by decide +kernel) q6_36 rfl, ?_⟩
  refine List.forall_mem_cons.mpr ⟨s_ldc2 (idx := 295) (y := (340)) (by decide +kernel) q6_37 rfl, ?_⟩
  refine List.forall_mem_cons.mpr ⟨s_calls (idx := 5) (k' := k_X9_within) q5_50 q5_48 q5_49 q1_10 de_X9_within (by decide) (by decide +kernel) rfl, ?_⟩
  refine List.forall_mem_cons.mpr ⟨s_if_ne (off := 5) (by decide +kernel) (by decide) rfl, ?_⟩
  refine List.forall_mem_cons.mpr ⟨s_iconst (by decide +kernel) rfl, ?_⟩
  refine List.forall_mem_cons.mpr ⟨s_iret rfl (by decide +kernel), ?_⟩
  refine List.forall_mem_cons.mpr ⟨s_aload_n (j := 0) (by decide +kernel) rfl rfl, ?_⟩
  refine List.forall_mem_cons.mpr ⟨s_getf (idx := 297) (C := RX9) (T := TX9) (N := 54) rfl inX9 (by decide) q4_148 (by decide +kernel) rfl, ?_⟩
  refine List.forall_mem_cons.mpr ⟨s_bipush (by decide +kernel) (by decide) rfl, ?_⟩
  refine List.forall_mem_cons.mpr ⟨s_icmp_ne (off := 6) (by decide +kernel) (by decide) rfl, ?_⟩
  refine List.forall_mem_cons.mpr ⟨s_bipush (by decide +kernel) (by decide) rfl, ?_⟩
  refine List.forall_mem_cons.mpr ⟨s_iret rfl (by decide +kernel), ?_⟩
  refine List.forall_mem_cons.mpr ⟨s_aload_n (j := 0) (by decide +kernel) rfl rfl, ?_⟩
  refine List.forall_mem_cons.mpr ⟨s_getf (idx := 92) (C := RX9) (T := TX9) (N := 54) rfl inX9 (by decide) q4_149 (by decide +kernel) rfl, ?_⟩
  refine List.forall_mem_cons.mpr ⟨s_aload_n (j := 0) (by decide +kernel) rfl rfl, ?_⟩
  refine List.forall_mem_cons.mpr ⟨s_getf (idx := 297) (C := RX9) (T := TX9) (N := 54) rfl inX9 (by decide) q4_148 (by decide +kernel) rfl, ?_⟩
  refine List.forall_mem_cons.mpr ⟨s_iload_n (j := 1) (by decide +kernel) rfl rfl, ?_⟩
  refine List.forall_mem_cons.mpr ⟨s_iast (by decide +kernel) rfl, ?_⟩
  refine List.forall_mem_cons.mpr ⟨s_aload_n (j := 0) (by decide +kernel) rfl rfl, ?_⟩
  refine List.forall_mem_cons.mpr ⟨s_dup (by decide +kernel) rfl, ?_⟩
  refine List.forall_mem_cons.mpr ⟨s_getf (idx := 297) (C := RX9) (T := TX9) (N := 54) rfl inX9 (by decide) q4_148 (by decide +kernel) rfl, ?_⟩
  refine List.forall_mem_cons.mpr ⟨s_iconst (by decide +kernel) rfl, ?_⟩
  refine List.forall_mem_cons.mpr ⟨s_iadd (by decide +kernel) rfl, ?_⟩
  refine List.forall_mem_cons.mpr ⟨s_putf (idx := 297) (C := RX9) (T := TX9) (N := 54) rfl inX9 tyX9_ok nmX9 (by decide) rfl (tyX9_ok 37 (by decide)) (Or.inl ⟨rfl, kdI 9 37 (by decide)⟩) q4_148 (by decide +kernel) rfl, ?_⟩
  refine List.forall_mem_cons.mpr ⟨s_aload_n (j := 0) (by decide +kernel) rfl rfl, ?_⟩
  refine List.forall_mem_cons.mpr ⟨s_getf (idx := 297) (C := RX9) (T := TX9) (N := 54) rfl inX9 (by decide) q4_148 (by decide +kernel) rfl, ?_⟩
  refine List.forall_mem_cons.mpr ⟨s_iret rfl (by decide +kernel), ?_⟩
  exact fun q hq => absurd hq List.not_mem_nil
def T_X9_moves : List (Nat × zO) := [(0, o_iload 1 1), (1, o_calls 1 k_X9_isShelf 4), (4, o_if_eq 19 7), (7, o_iload 8 3), (8, o_i2l 9), (9, o_lconst 10 1), (10, o_lconst 13 (12)), (13, o_calls 3 k_X9_within 16), (16, o_if_ne 21 19), (19, o_const 20 (-1)), (20, o_iret), (21, o_aload 22 0), (22, o_getf 25 9 50), (25, o_iload 26 1), (26, o_iald 27), (27, o_if_lt 44 30), (30, o_aload 31 0), (31, o_getf 34 9 50), (34, o_iload 35 1), (35, o_iald 36), (36, o_const 38 51), (38, o_icmp_eq 44 41), (41, o_const 43 (-12)), (43, o_iret), (44, o_const 45 0), (45, o_istore 47 4), (47, o_aload 48 0), (48, o_getf 51 9 50), (51, o_iload 52 1), (52, o_iald 53), (53, o_const 55 51), (55, o_icmp_ne 66 58), (58, o_iload 59 2), (59, o_if_lt 66 62), (62, o_const 63 1), (63, o_goto 67), (66, o_const 67 0), (67, o_istore 69 5), (69, o_iload 71 5), (71, o_if_eq 140 74), (74, o_iload 76 4), (76, o_iload 77 3), (77, o_icmp_ge 140 80), (80, o_iload 81 2), (81, o_aload 82 0), (82, o_getf 85 9 51), (85, o_iload 86 1), (86, o_iald 87), (87, o_iload 89 4), (89, o_isub 90), (90, o_icmp_ge 119 93), (93, o_aload 94 0), (94, o_aload 95 0), (95, o_getf 98 9 52), (98, o_const 100 60), (100, o_iload 101 1), (101, o_imul 102), (102, o_iload 103 2), (103, o_iadd 104), (104, o_iload 106 4), (106, o_iadd 107), (107, o_lald 108), (108, o_l2i 109), (109, o_callv 1 9 k_X9_move 112), (112, o_if_le 119 115), (115, o_const 116 1), (116, o_goto 120), (119, o_const 120 0), (120, o_istore 122 5), (122, o_iload 124 4), (124, o_iload 126 5), (126, o_if_eq 133 129), (129, o_const 130 1), (130, o_goto 134), (133, o_const 134 0), (134, o_iadd 135), (135, o_istore 137 4), (137, o_goto 69), (140, o_iload 142 4), (142, o_iret)]
set_option maxRecDepth 20000 in
theorem t_X9_moves : ∀ q ∈ T_X9_moves, zS k_X9_moves q.1 q.2 := by
  unfold T_X9_moves
  refine List.forall_mem_cons.mpr ⟨s_iload_n (j := 1) (by decide +kernel) rfl rfl, ?_⟩
  refine List.forall_mem_cons.mpr ⟨s_calls (idx := 300) (k' := k_X9_isShelf) q6_44 q6_42 q6_43 q1_10 de_X9_isShelf (by decide) (by decide +kernel) rfl, ?_⟩
  refine List.forall_mem_cons.mpr ⟨s_if_eq (off := 15) (by decide +kernel) (by decide) rfl, ?_⟩
  refine List.forall_mem_cons.mpr ⟨s_iload_n (j := 3) (by decide +kernel) rfl rfl, ?_⟩
  refine List.forall_mem_cons.mpr ⟨s_i2l (by decide +kernel) rfl, ?_⟩
  refine List.forall_mem_cons.mpr ⟨s_lconst (z := 1) (by decide +kernel) (by decide) rfl, ?_⟩
  refine List.forall_mem_cons.mpr ⟨s_ldc2 (idx := 303) (y := (12)) (by decide +kernel) q6_46 rfl, ?_⟩
  refine List.forall_mem_cons.mpr ⟨s_calls (idx := 5) (k' := k_X9_within) q5_50 q5_48 q5_49 q1_10 de_X9_within (by decide) (by decide +kernel) rfl, ?_⟩
  refine List.forall_mem_cons.mpr ⟨s_if_ne (off := 5) (by decide +kernel) (by decide) rfl, ?_⟩
  refine List.forall_mem_cons.mpr ⟨s_iconst (by decide +kernel) rfl, ?_⟩
  refine List.forall_mem_cons.mpr ⟨s_iret rfl (by decide +kernel), ?_⟩
  refine List.forall_mem_cons.mpr ⟨s_aload_n (j := 0) (by decide +kernel) rfl rfl, ?_⟩
  refine List.forall_mem_cons.mpr ⟨s_getf (idx := 104) (C := RX9) (T := TX9) (N := 54) rfl inX9 (by decide) q4_161 (by decide +kernel) rfl, ?_⟩
  refine List.forall_mem_cons.mpr ⟨s_iload_n (j := 1) (by decide +kernel) rfl rfl, ?_⟩
  refine List.forall_mem_cons.mpr ⟨s_iald (by decide +kernel) rfl, ?_⟩
  refine List.forall_mem_cons.mpr ⟨s_if_lt (off := 17) (by decide +kernel) (by decide) rfl, ?_⟩
  refine List.forall_mem_cons.mpr ⟨s_aload_n (j := 0) (by decide +kernel) rfl rfl, ?_⟩
  refine List.forall_mem_cons.mpr ⟨s_getf (idx := 104) (C := RX9) (T := TX9) (N := 54) rfl inX9 (by decide) q4_161 (by decide +kernel) rfl, ?_⟩
  refine List.forall_mem_cons.mpr ⟨s_iload_n (j := 1) (by decide +kernel) rfl rfl, ?_⟩
  refine List.forall_mem_cons.mpr ⟨s_iald (by decide +kernel) rfl, ?_⟩
  refine List.forall_mem_cons.mpr ⟨s_bipush (by decide +kernel) (by decide) rfl, ?_⟩
  refine List.forall_mem_cons.mpr ⟨s_icmp_eq (off := 6) (by decide +kernel) (by decide) rfl, ?_⟩
  refine List.forall_mem_cons.mpr ⟨s_bipush (by decide +kernel) (by decide) rfl, ?_⟩
  refine List.forall_mem_cons.mpr ⟨s_iret rfl (by decide +kernel), ?_⟩
  refine List.forall_mem_cons.mpr ⟨s_iconst (by decide +kernel) rfl, ?_⟩
  refine List.forall_mem_cons.mpr ⟨s_istore (by decide +kernel) (by decide) rfl, ?_⟩
  refine List.forall_mem_cons.mpr ⟨s_aload_n (j := 0) (by decide +kernel) rfl rfl, ?_⟩
  refine List.forall_mem_cons.mpr ⟨s_getf (idx := 104) (C := RX9) (T := TX9) (N := 54) rfl inX9 (by decide) q4_161 (by decide +kernel) rfl, ?_⟩
  refine List.forall_mem_cons.mpr ⟨s_iload_n (j := 1) (by decide +kernel) rfl rfl, ?_⟩
  refine List.forall_mem_cons.mpr ⟨s_iald (by decide +kernel) rfl, ?_⟩
  refine List.forall_mem_cons.mpr ⟨s_bipush (by decide +kernel) (by decide) rfl, ?_⟩
  refine List.forall_mem_cons.mpr ⟨s_icmp_ne (off := 11) (by decide +kernel) (by decide) rfl, ?_⟩
  refine List.forall_mem_cons.mpr ⟨s_iload_n (j := 2) (by decide +kernel) rfl rfl, ?_⟩
  refine List.forall_mem_cons.mpr ⟨s_if_lt (off := 7) (by decide +kernel) (by decide) rfl, ?_⟩
  refine List.forall_mem_cons.mpr ⟨s_iconst (by decide +kernel) rfl, ?_⟩
  refine List.forall_mem_cons.mpr ⟨s_goto (off := 4) (by decide +kernel) (by decide), ?_⟩
  refine List.forall_mem_cons.mpr ⟨s_iconst (by decide +kernel) rfl, ?_⟩
  refine List.forall_mem_cons.mpr ⟨s_istore (by decide +kernel) (by decide) rfl, ?_⟩
  refine List.forall_mem_cons.mpr ⟨s_iload (by decide +kernel) rfl, ?_⟩
  refine List.forall_mem_cons.mpr ⟨s_if_eq (off := 69) (by decide +kernel) (by decide) rfl, ?_⟩
  refine List.forall_mem_cons.mpr ⟨s_iload (by decide +kernel) rfl, ?_⟩
  refine List.forall_mem_cons.mpr ⟨s_iload_n (j := 3) (by decide +kernel) rfl rfl, ?_⟩
  refine List.forall_mem_cons.mpr ⟨s_icmp_ge (off := 63) (by decide +kernel) (by decide) rfl, ?_⟩
  refine List.forall_mem_cons.mpr ⟨s_iload_n (j := 2) (by decide +kernel) rfl rfl, ?_⟩
  refine List.forall_mem_cons.mpr ⟨s_aload_n (j := 0) (by decide +kernel) rfl rfl, ?_⟩
  refine List.forall_mem_cons.mpr ⟨s_getf (idx := 107) (C := RX9) (T := TX9) (N := 54) rfl inX9 (by decide) q4_162 (by decide +kernel) rfl, ?_⟩
  refine List.forall_mem_cons.mpr ⟨s_iload_n (j := 1) (by decide +kernel) rfl rfl, ?_⟩
  refine List.forall_mem_cons.mpr ⟨s_iald (by decide +kernel) rfl, ?_⟩
  refine List.forall_mem_cons.mpr ⟨s_iload (by decide +kernel) rfl, ?_⟩
  refine List.forall_mem_cons.mpr ⟨s_isub (by decide +kernel) rfl, ?_⟩
  refine List.forall_mem_cons.mpr ⟨s_icmp_ge (off := 29) (by decide +kernel) (by decide) rfl, ?_⟩
  refine List.forall_mem_cons.mpr ⟨s_aload_n (j := 0) (by decide +kernel) rfl rfl, ?_⟩
  refine List.forall_mem_cons.mpr ⟨s_aload_n (j := 0) (by decide +kernel) rfl rfl, ?_⟩
  refine List.forall_mem_cons.mpr ⟨s_getf (idx := 110) (C := RX9) (T := TX9) (N := 54) rfl inX9 (by decide) q4_163 (by decide +kernel) rfl, ?_⟩
  refine List.forall_mem_cons.mpr ⟨s_bipush (by decide +kernel) (by decide) rfl, ?_⟩
  refine List.forall_mem_cons.mpr ⟨s_iload_n (j := 1) (by decide +kernel) rfl rfl, ?_⟩
  refine List.forall_mem_cons.mpr ⟨s_imul (by decide +kernel) rfl, ?_⟩
  refine List.forall_mem_cons.mpr ⟨s_iload_n (j := 2) (by decide +kernel) rfl rfl, ?_⟩
  refine List.forall_mem_cons.mpr ⟨s_iadd (by decide +kernel) rfl, ?_⟩
  refine List.forall_mem_cons.mpr ⟨s_iload (by decide +kernel) rfl, ?_⟩
  refine List.forall_mem_cons.mpr ⟨s_iadd (by decide +kernel) rfl, ?_⟩
  refine List.forall_mem_cons.mpr ⟨s_lald (by decide +kernel) rfl, ?_⟩
  refine List.forall_mem_cons.mpr ⟨s_l2i (by decide +kernel) rfl, ?_⟩
  refine List.forall_mem_cons.mpr ⟨s_callv (idx := 305) (k' := k_X9_move) (T := TX9) (N := 54) rfl q6_35 q6_47 q6_33 q6_34 q1_10 de_X9_move (by decide) (by decide +kernel) rfl, ?_⟩
  refine List.forall_mem_cons.mpr ⟨s_if_le (off := 7) (by decide +kernel) (by decide) rfl, ?_⟩
  refine List.forall_mem_cons.mpr ⟨s_iconst (by decide +kernel) rfl, ?_⟩
  refine List.forall_mem_cons.mpr ⟨s_goto (off := 4) (by decide +kernel) (by decide), ?_⟩
  refine List.forall_mem_cons.mpr ⟨s_iconst (by decide +kernel) rfl, ?_⟩
  refine List.forall_mem_cons.mpr ⟨s_istore (by decide +kernel) (by decide) rfl, ?_⟩
  refine List.forall_mem_cons.mpr ⟨s_iload (by decide +kernel) rfl, ?_⟩
  refine List.forall_mem_cons.mpr ⟨s_iload (by decide +kernel) rfl, ?_⟩
  refine List.forall_mem_cons.mpr ⟨s_if_eq (off := 7) (by decide +kernel) (by decide) rfl, ?_⟩
  refine List.forall_mem_cons.mpr ⟨s_iconst (by decide +kernel) rfl, ?_⟩
  refine List.forall_mem_cons.mpr ⟨s_goto (off := 4) (by decide +kernel) (by decide), ?_⟩
  refine List.forall_mem_cons.mpr ⟨s_iconst (by decide +kernel) rfl, ?_⟩
  refine List.forall_mem_cons.mpr ⟨s_iadd (by decide +kernel) rfl, ?_⟩
  refine List.forall_mem_cons.mpr ⟨s_istore (by decide +kernel) (by decide) rfl, ?_⟩
  refine List.forall_mem_cons.mpr ⟨s_goto (off := (-68)) (by decide +kernel) (by decide), ?_⟩
  refine List.forall_mem_cons.mpr ⟨s_iload (by decide +kernel) rfl, ?_⟩
  refine List.forall_mem_cons.mpr ⟨s_iret rfl (by decide +kernel), ?_⟩
  exact fun q hq => absurd hq List.not_mem_nil
def T_X9_drop : List (Nat × zO) := [(0, o_aload 1 0), (1, o_getf 4 9 37), (4, o_istore 5 1), (5, o_aload 6 0), (6, o_const 7 0), (7, o_putf 10 9 37), (10, o_iload 11 1), (11, o_iret)]
set_option maxRecDepth 20000 in
theorem t_X9_drop : ∀ q ∈ T_X9_drop, zS k_X9_drop q.1 q.2 := by
  unfold T_X9_drop
  refine List.forall_mem_cons.mpr ⟨s_aload_n (j := 0) (by decide +kernel) rfl rfl, ?_⟩
  refine List.forall_mem_cons.mpr ⟨s_getf (idx := 297) (C := RX9) (T := TX9) (N := 54) rfl inX9 (by decide) q4_148 (by decide +kernel) rfl, ?_⟩
  refine List.forall_mem_cons.mpr ⟨s_istore_n (j := 1) (by decide +kernel) rfl (by decide) rfl, ?_⟩
  refine List.forall_mem_cons.mpr ⟨s_aload_n (j := 0) (by decide +kernel) rfl rfl, ?_⟩
  refine List.forall_mem_cons.mpr ⟨s_iconst (by decide +kernel) rfl, ?_⟩
  refine List.forall_mem_cons.mpr ⟨s_putf (idx := 297) (C := RX9) (T := TX9) (N := 54) rfl inX9 tyX9_ok nmX9 (by decide) rfl (tyX9_ok 37 (by decide)) (Or.inl ⟨rfl, kdI 9 37 (by decide)⟩) q4_148 (by decide +kernel) rfl, ?_⟩
  refine List.forall_mem_cons.mpr ⟨s_iload_n (j := 1) (by decide +kernel) rfl rfl, ?_⟩
  refine List.forall_mem_cons.mpr ⟨s_iret rfl (by decide +kernel), ?_⟩
  exact fun q hq => absurd hq List.not_mem_nil
def T_X9_doesMove : List (Nat × zO) := [(0, o_iload 1 1), (1, o_const 3 24), (3, o_icmp_ge 89 6), (6, o_aload 7 0), (7, o_iload 8 1), (8, o_aload 9 0), (9, o_getf 12 9 39), (12, o_callv 2 9 k_X9_otherEnd 15), (15, o_istore 16 2), (16, o_iload 17 2), (17, o_if_lt 36 20), (20, o_aload 21 0), (21, o_iload 22 1), (22, o_aload 23 0), (23, o_getf 26 9 40), (26, o_aload 27 0), (27, o_getf 30 9 41), (30, o_callv 3 9 k_X9_goes 33), (33, o_if_ne 38 36), (36, o_const 37 0), (37, o_zret), (38, o_aload 39 0), (39, o_iload 40 2), (40, o_putf 43 9 39), (43, o_aload 44 0), (44, o_dup 45), (45, o_getf 48 9 40), (48, o_aload 49 0), (49, o_iload 50 1), (50, o_aload 51 0), (51, o_getf 54 9 27), (54, o_aload 55 0), (55, o_getf 58 9 41), (58, o_callv 3 9 k_X9_takesOf 61), (61, o_iadd 62), (62, o_putf 65 9 40), (65, o_aload 66 0), (66, o_dup 67), (67, o_getf 70 9 41), (70, o_aload 71 0), (71, o_getf 74 9 41), (74, o_const 75 3), (75, o_icmp_ge 82 78), (78, o_const 79 1), (79, o_goto 83), (82, o_const 83 0), (83, o_iadd 84), (84, o_putf 87 9 41), (87, o_const 88 1), (88, o_zret), (89, o_const 90 0), (90, o_istore 91 2), (91, o_iload 92 2), (92, o_iload 93 1), (93, o_const 95 100), (95, o_isub 96), (96, o_icmp_ge 124 99), (99, o_aload 100 0), (100, o_aload 101 0), (101, o_getf 104 9 39), (104, o_aload 105 0), (105, o_getf 108 9 40), (108, o_iload 109 2), (109, o_iadd 110), (110, o_callv 2 9 k_X9_waits 113), (113, o_if_ne 118 116), (116, o_const 117 0), (117, o_zret), (118, o_iinc 121 2 1), (121, o_goto 91), (124, o_aload 125 0), (125, o_dup 126), (126, o_getf 129 9 40), (129, o_iload 130 1), (130, o_const 132 100), (132, o_isub 133), (133, o_iadd 134), (134, o_putf 137 9 40), (137, o_const 138 1), (138, o_zret)]
set_option maxRecDepth 20000 in
theorem t_X9_doesMove : ∀ q ∈ T_X9_doesMove, zS k_X9_doesMove q.1 q.2 := by
  unfold T_X9_doesMove
  refine List.forall_mem_cons.mpr ⟨s_iload_n (j := 1) (by decide +kernel) rfl rfl, ?_⟩
  refine List.forall_mem_cons.mpr ⟨s_bipush (by decide +kernel) (by decide) rfl, ?_⟩
  refine List.forall_mem_cons.mpr ⟨s_icmp_ge (off := 86) (by decide +kernel) (by decide) rfl, ?_⟩
  refine List.forall_mem_cons.mpr ⟨s_aload_n (j := 0) (by decide +kernel) rfl rfl, ?_⟩
  refine List.forall_mem_cons.mpr ⟨s_iload_n (j := 1) (by decide +kernel) rfl rfl, ?_⟩
  refine List.forall_mem_cons.mpr ⟨s_aload_n (j := 0) (by decide +kernel) rfl rfl, ?_⟩
  refine List.forall_mem_cons.mpr ⟨s_getf (idx := 308) (C := RX9) (T := TX9) (N := 54) rfl inX9 (by decide) q4_150 (by decide +kernel) rfl, ?_⟩
  refine List.forall_mem_cons.mpr ⟨s_callv (idx := 231) (k' := k_X9_otherEnd) (T := TX9) (N := 54) rfl q5_203 q5_200 q5_202 qs_51 q1_10 de_X9_otherEnd (by decide) (by decide +kernel) rfl, ?_⟩
  refine List.forall_mem_cons.mpr ⟨s_istore_n (j := 2) (by decide +kernel) rfl (by decide) rfl, ?_⟩
  refine List.forall_mem_cons.mpr ⟨s_iload_n (j := 2) (by decide +kernel) rfl rfl, ?_⟩
  refine List.forall_mem_cons.mpr ⟨s_if_lt (off := 19) (by decide +kernel) (by decide) rfl, ?_⟩
  refine List.forall_mem_cons.mpr ⟨s_aload_n (j := 0) (by decide +kernel) rfl rfl, ?_⟩
  refine List.forall_mem_cons.mpr ⟨s_iload_n (j := 1) (by decide +kernel) rfl rfl, ?_⟩
  refine List.forall_mem_cons.mpr ⟨s_aload_n (j := 0) (by decide +kernel) rfl rfl, ?_⟩
  refine List.forall_mem_cons.mpr ⟨s_getf (idx := 311) (C := RX9) (T := TX9) (N := 54) rfl inX9 (by decide) q4_151 (by decide +kernel) rfl, ?_⟩
  refine List.forall_mem_cons.mpr ⟨s_aload_n (j := 0) (by decide +kernel) rfl rfl, ?_⟩
  refine List.forall_mem_cons.mpr ⟨s_getf (idx := 314) (C := RX9) (T := TX9) (N := 54) rfl inX9 (by decide) q4_152 (by decide +kernel) rfl, ?_⟩
  refine List.forall_mem_cons.mpr ⟨s_callv (idx := 234) (k' := k_X9_goes) (T := TX9) (N := 54) rfl q5_176 q5_173 q5_175 qs_46 q1_10 de_X9_goes (by decide) (by decide +kernel) rfl, ?_⟩
  refine List.forall_mem_cons.mpr ⟨s_if_ne (off := 5) (by decide +kernel) (by decide) rfl, ?_⟩
  refine List.forall_mem_cons.mpr ⟨s_iconst (by decide +kernel) rfl, ?_⟩
  refine List.forall_mem_cons.mpr ⟨s_zret rfl (by decide +kernel), ?_⟩
  refine List.forall_mem_cons.mpr ⟨s_aload_n (j := 0) (by decide +kernel) rfl rfl, ?_⟩
  refine List.forall_mem_cons.mpr ⟨s_iload_n (j := 2) (by decide +kernel) rfl rfl, ?_⟩
  refine List.forall_mem_cons.mpr ⟨s_putf (idx := 308) (C := RX9) (T := TX9) (N := 54) rfl inX9 tyX9_ok nmX9 (by decide) rfl (tyX9_ok 39 (by decide)) (Or.inl ⟨rfl, kdI 9 39 (by decide)⟩) q4_150 (by decide +kernel) rfl, ?_⟩
  refine List.forall_mem_cons.mpr ⟨s_aload_n (j := 0) (by decide +kernel) rfl rfl, ?_⟩
  refine List.forall_mem_cons.mpr ⟨s_dup (by decide +kernel) rfl, ?_⟩
  refine List.forall_mem_cons.mpr ⟨s_getf (idx := 311) (C := RX9) (T := TX9) (N := 54) rfl inX9 (by decide) q4_151 (by decide +kernel) rfl, ?_⟩
  refine List.forall_mem_cons.mpr ⟨s_aload_n (j := 0) (by decide +kernel) rfl rfl, ?_⟩
  refine List.forall_mem_cons.mpr ⟨s_iload_n (j := 1) (by decide +kernel) rfl rfl, ?_⟩
  refine List.forall_mem_cons.mpr ⟨s_aload_n (j := 0) (by decide +kernel) rfl rfl, ?_⟩
  refine List.forall_mem_cons.mpr ⟨s_getf (idx := 218) (C := RX9) (T := TX9) (N := 54) rfl inX9 (by decide) q4_138 (by decide +kernel) rfl, ?_⟩
  refine List.forall_mem_cons.mpr ⟨s_aload_n (j := 0) (by decide +kernel) rfl rfl, ?_⟩
  refine List.forall_mem_cons.mpr ⟨s_getf (idx := 314) (C := RX9) (T := TX9) (N := 54) rfl inX9 (by decide) q4_152 (by decide +kernel) rfl, ?_⟩
  refine List.forall_mem_cons.mpr ⟨s_callv (idx := 215) (k' := k_X9_takesOf) (T := TX9) (N := 54) rfl q5_155 q5_152 q5_154 qs_42 q1_10 de_X9_takesOf (by decide) (by decide +kernel) rfl, ?_⟩
  refine List.forall_mem_cons.mpr ⟨s_iadd (by decide +kernel) rfl, ?_⟩
  refine List.forall_mem_cons.mpr ⟨s_putf (idx := 311) (C := RX9) (T := TX9) (N := 54) rfl inX9 tyX9_ok nmX9 (by decide) rfl (tyX9_ok 40 (by decide)) (Or.inl ⟨rfl, kdI 9 40 (by decide)⟩) q4_151 (by decide +kernel) rfl, ?_⟩
  refine List.forall_mem_cons.mpr ⟨s_aload_n (j := 0) (by decide +kernel) rfl rfl, ?_⟩
  refine List.forall_mem_cons.mpr ⟨s_dup (by decide +kernel) rfl, ?_⟩
  refine List.forall_mem_cons.mpr ⟨s_getf (idx := 314) (C := RX9) (T := TX9) (N := 54) rfl inX9 (by decide) q4_152 (by decide +kernel) rfl, ?_⟩
  refine List.forall_mem_cons.mpr ⟨s_aload_n (j := 0) (by decide +kernel) rfl rfl, ?_⟩
  refine List.forall_mem_cons.mpr ⟨s_getf (idx := 314) (C := RX9) (T := TX9) (N := 54) rfl inX9 (by decide) q4_152 (by decide +kernel) rfl, ?_⟩
  refine List.forall_mem_cons.mpr ⟨s_iconst (by decide +kernel) rfl, ?_⟩
  refine List.forall_mem_cons.mpr ⟨s_icmp_ge (off := 7) (by decide +kernel) (by decide) rfl, ?_⟩
  refine List.forall_mem_cons.mpr ⟨s_iconst (by decide +kernel) rfl, ?_⟩
  refine List.forall_mem_cons.mpr ⟨s_goto (off := 4) (by decide +kernel) (by decide), ?_⟩
  refine List.forall_mem_cons.mpr ⟨s_iconst (by decide +kernel) rfl, ?_⟩
  refine List.forall_mem_cons.mpr ⟨s_iadd (by decide +kernel) rfl, ?_⟩
  refine List.forall_mem_cons.mpr ⟨s_putf (idx := 314) (C := RX9) (T := TX9) (N := 54) rfl inX9 tyX9_ok nmX9 (by decide) rfl (tyX9_ok 41 (by decide)) (Or.inl ⟨rfl, kdI 9 41 (by decide)⟩) q4_152 (by decide +kernel) rfl, ?_⟩
  refine List.forall_mem_cons.mpr ⟨s_iconst (by decide +kernel) rfl, ?_⟩
  refine List.forall_mem_cons.mpr ⟨s_zret rfl (by decide +kernel), ?_⟩
  refine List.forall_mem_cons.mpr ⟨s_iconst (by decide +kernel) rfl, ?_⟩
  refine List.forall_mem_cons.mpr ⟨s_istore_n (j := 2) (by decide +kernel) rfl (by decide) rfl, ?_⟩
  refine List.forall_mem_cons.mpr ⟨s_iload_n (j := 2) (by decide +kernel) rfl rfl, ?_⟩
  refine List.forall_mem_cons.mpr ⟨s_iload_n (j := 1) (by decide +kernel) rfl rfl, ?_⟩
  refine List.forall_mem_cons.mpr ⟨s_bipush (by decide +kernel) (by decide) rfl, ?_⟩
  refine List.forall_mem_cons.mpr ⟨s_isub (by decide +kernel) rfl, ?_⟩
  refine List.forall_mem_cons.mpr ⟨s_icmp_ge (off := 28) (by decide +kernel) (by decide) rfl, ?_⟩
  refine List.forall_mem_cons.mpr ⟨s_aload_n (j := 0) (by decide +kernel) rfl rfl, ?_⟩
  refine List.forall_mem_cons.mpr ⟨s_aload_n (j := 0) (by decide +kernel) rfl rfl, ?_⟩
  refine List.forall_mem_cons.mpr ⟨s_getf (idx := 308) (C := RX9) (T := TX9) (N := 54) rfl inX9 (by decide) q4_150 (by decide +kernel) rfl, ?_⟩
  refine List.forall_mem_cons.mpr ⟨s_aload_n (j := 0) (by decide +kernel) rfl rfl, ?_⟩
  refine List.forall_mem_cons.mpr ⟨s_getf (idx := 311) (C := RX9) (T := TX9) (N := 54) rfl inX9 (by decide) q4_151 (by decide +kernel) rfl, ?_⟩
  refine List.forall_mem_cons.mpr ⟨s_iload_n (j := 2) (by decide +kernel) rfl rfl, ?_⟩
  refine List.forall_mem_cons.mpr ⟨s_iadd (by decide +kernel) rfl, ?_⟩
  refine List.forall_mem_cons.mpr ⟨s_callv (idx := 224) (k' := k_X9_waits) (T := TX9) (N := 54) rfl q5_199 q5_196 q5_198 qs_50 q1_10 de_X9_waits (by decide) (by decide +kernel) rfl, ?_⟩
  refine List.forall_mem_cons.mpr ⟨s_if_ne (off := 5) (by decide +kernel) (by decide) rfl, ?_⟩
  refine List.forall_mem_cons.mpr ⟨s_iconst (by decide +kernel) rfl, ?_⟩
  refine List.forall_mem_cons.mpr ⟨s_zret rfl (by decide +kernel), ?_⟩
  refine List.forall_mem_cons.mpr ⟨s_iinc (by decide +kernel) (by decide) rfl, ?_⟩
  refine List.forall_mem_cons.mpr ⟨s_goto (off := (-30)) (by decide +kernel) (by decide), ?_⟩
  refine List.forall_mem_cons.mpr ⟨s_aload_n (j := 0) (by decide +kernel) rfl rfl, ?_⟩
  refine List.forall_mem_cons.mpr ⟨s_dup (by decide +kernel) rfl, ?_⟩
  refine List.forall_mem_cons.mpr ⟨s_getf (idx := 311) (C := RX9) (T := TX9) (N := 54) rfl inX9 (by decide) q4_151 (by decide +kernel) rfl, ?_⟩
  refine List.forall_mem_cons.mpr ⟨s_iload_n (j := 1) (by decide +kernel) rfl rfl, ?_⟩
  refine List.forall_mem_cons.mpr ⟨s_bipush (by decide +kernel) (by decide) rfl, ?_⟩
  refine List.forall_mem_cons.mpr ⟨s_isub (by decide +kernel) rfl, ?_⟩
  refine List.forall_mem_cons.mpr ⟨s_iadd (by decide +kernel) rfl, ?_⟩
  refine List.forall_mem_cons.mpr ⟨s_putf (idx := 311) (C := RX9) (T := TX9) (N := 54) rfl inX9 tyX9_ok nmX9 (by decide) rfl (tyX9_ok 40 (by decide)) (Or.inl ⟨rfl, kdI 9 40 (by decide)⟩) q4_151 (by decide +kernel) rfl, ?_⟩
  refine List.forall_mem_cons.mpr ⟨s_iconst (by decide +kernel) rfl, ?_⟩
  refine List.forall_mem_cons.mpr ⟨s_zret rfl (by decide +kernel), ?_⟩
  exact fun q hq => absurd hq List.not_mem_nil
def T_X9_goPlan : List (Nat × zO) := [(0, o_aload 1 0), (1, o_iload 2 2), (2, o_iload 3 3), (3, o_callv 2 9 k_X9_layOut 6), (6, o_aload 7 0), (7, o_iload 8 1), (8, o_const 11 10000), (11, o_idiv 12), (12, o_putf 15 9 39), (15, o_aload 16 0), (16, o_iload 17 1), (17, o_const 20 10000), (20, o_irem 21), (21, o_putf 24 9 40), (24, o_aload 25 0), (25, o_const 26 0), (26, o_putf 29 9 41), (29, o_const 30 0), (30, o_istore 32 4), (32, o_iload 34 4), (34, o_aload 35 0), (35, o_getf 38 9 37), (38, o_icmp_ge 64 41), (41, o_aload 42 0), (42, o_aload 43 0), (43, o_getf 46 9 38), (46, o_iload 48 4), (48, o_iald 49), (49, o_callv 1 9 k_X9_doesMove 52), (52, o_if_ne 58 55), (55, o_iload 57 4), (57, o_iret), (58, o_iinc 61 4 1), (61, o_goto 32), (64, o_const 66 (-2)), (66, o_iret)]
set_option maxRecDepth 20000 in
theorem t_X9_goPlan : ∀ q ∈ T_X9_goPlan, zS k_X9_goPlan q.1 q.2 := by
  unfold T_X9_goPlan
  refine List.forall_mem_cons.mpr ⟨s_aload_n (j := 0) (by decide +kernel) rfl rfl, ?_⟩
  refine List.forall_mem_cons.mpr ⟨s_iload_n (j := 2) (by decide +kernel) rfl rfl, ?_⟩
  refine List.forall_mem_cons.mpr ⟨s_iload_n (j := 3) (by decide +kernel) rfl rfl, ?_⟩
  refine List.forall_mem_cons.mpr ⟨s_callv (idx := 238) (k' := k_X9_layOut) (T := TX9) (N := 54) rfl q5_172 q5_169 q5_171 qs_45 q1_10 de_X9_layOut (by decide) (by decide +kernel) rfl, ?_⟩
  refine List.forall_mem_cons.mpr ⟨s_aload_n (j := 0) (by decide +kernel) rfl rfl, ?_⟩
  refine List.forall_mem_cons.mpr ⟨s_iload_n (j := 1) (by decide +kernel) rfl rfl, ?_⟩
  refine List.forall_mem_cons.mpr ⟨s_sipush (by decide +kernel) (by decide) rfl, ?_⟩
  refine List.forall_mem_cons.mpr ⟨s_idiv (by decide +kernel) rfl, ?_⟩
  refine List.forall_mem_cons.mpr ⟨s_putf (idx := 308) (C := RX9) (T := TX9) (N := 54) rfl inX9 tyX9_ok nmX9 (by decide) rfl (tyX9_ok 39 (by decide)) (Or.inl ⟨rfl, kdI 9 39 (by decide)⟩) q4_150 (by decide +kernel) rfl, ?_⟩
  refine List.forall_mem_cons.mpr ⟨s_aload_n (j := 0) (by decide +kernel) rfl rfl, ?_⟩
  refine List.forall_mem_cons.mpr ⟨s_iload_n (j := 1) (by decide +kernel) rfl rfl, ?_⟩
  refine List.forall_mem_cons.mpr ⟨s_sipush (by decide +kernel) (by decide) rfl, ?_⟩
  refine List.forall_mem_cons.mpr ⟨s_irem (by decide +kernel) rfl, ?_⟩
  refine List.forall_mem_cons.mpr ⟨s_putf (idx := 311) (C := RX9) (T := TX9) (N := 54) rfl inX9 tyX9_ok nmX9 (by decide) rfl (tyX9_ok 40 (by decide)) (Or.inl ⟨rfl, kdI 9 40 (by decide)⟩) q4_151 (by decide +kernel) rfl, ?_⟩
  refine List.forall_mem_cons.mpr ⟨s_aload_n (j := 0) (by decide +kernel) rfl rfl, ?_⟩
  refine List.forall_mem_cons.mpr ⟨s_iconst (by decide +kernel) rfl, ?_⟩
  refine List.forall_mem_cons.mpr ⟨s_putf (idx := 314) (C := RX9) (T := TX9) (N := 54) rfl inX9 tyX9_ok nmX9 (by decide) rfl (tyX9_ok 41 (by decide)) (Or.inl ⟨rfl, kdI 9 41 (by decide)⟩) q4_152 (by decide +kernel) rfl, ?_⟩
  refine List.forall_mem_cons.mpr ⟨s_iconst (by decide +kernel) rfl, ?_⟩
  refine List.forall_mem_cons.mpr ⟨s_istore (by decide +kernel) (by decide) rfl, ?_⟩
  refine List.forall_mem_cons.mpr ⟨s_iload (by decide +kernel) rfl, ?_⟩
  refine List.forall_mem_cons.mpr ⟨s_aload_n (j := 0) (by decide +kernel) rfl rfl, ?_⟩
  refine List.forall_mem_cons.mpr ⟨s_getf (idx := 297) (C := RX9) (T := TX9) (N := 54) rfl inX9 (by decide) q4_148 (by decide +kernel) rfl, ?_⟩
  refine List.forall_mem_cons.mpr ⟨s_icmp_ge (off := 26) (by decide +kernel) (by decide) rfl, ?_⟩
  refine List.forall_mem_cons.mpr ⟨s_aload_n (j := 0) (by decide +kernel) rfl rfl, ?_⟩
  refine List.forall_mem_cons.mpr ⟨s_aload_n (j := 0) (by decide +kernel) rfl rfl, ?_⟩
  refine List.forall_mem_cons.mpr ⟨s_getf (idx := 92) (C := RX9) (T := TX9) (N := 54) rfl inX9 (by decide) q4_149 (by decide +kernel) rfl, ?_⟩
  refine List.forall_mem_cons.mpr ⟨s_iload (by decide +kernel) rfl, ?_⟩
  refine List.forall_mem_cons.mpr ⟨s_iald (by decide +kernel) rfl, ?_⟩
  refine List.forall_mem_cons.mpr ⟨s_callv (idx := 317) (k' := k_X9_doesMove) (T := TX9) (N := 54) rfl q6_63 q6_60 q6_62 qs_63 q1_10 de_X9_doesMove (by decide) (by decide +kernel) rfl, ?_⟩
  refine List.forall_mem_cons.mpr ⟨s_if_ne (off := 6) (by decide +kernel) (by decide) rfl, ?_⟩
  refine List.forall_mem_cons.mpr ⟨s_iload (by decide +kernel) rfl, ?_⟩
  refine List.forall_mem_cons.mpr ⟨s_iret rfl (by decide +kernel), ?_⟩
  refine List.forall_mem_cons.mpr ⟨s_iinc (by decide +kernel) (by decide) rfl, ?_⟩
  refine List.forall_mem_cons.mpr ⟨s_goto (off := (-29)) (by decide +kernel) (by decide), ?_⟩
  refine List.forall_mem_cons.mpr ⟨s_bipush (by decide +kernel) (by decide) rfl, ?_⟩
  refine List.forall_mem_cons.mpr ⟨s_iret rfl (by decide +kernel), ?_⟩
  exact fun q hq => absurd hq List.not_mem_nil
def T_X9_judge : List (Nat × zO) := [(0, o_aload 1 0), (1, o_iload 2 1), (2, o_callv 1 9 k_X9_isFrom 5), (5, o_if_eq 37 8), (8, o_aload 9 0), (9, o_iload 10 2), (10, o_callv 1 9 k_X9_isSt 13), (13, o_if_eq 37 16), (16, o_aload 17 0), (17, o_iload 18 3), (18, o_callv 1 9 k_X9_isWind 21), (21, o_if_eq 37 24), (24, o_iload 26 4), (26, o_i2l 27), (27, o_lconst 28 0), (28, o_lconst 31 (2)), (31, o_calls 3 k_X9_within 34), (34, o_if_ne 39 37), (37, o_const 38 (-1)), (38, o_iret), (39, o_aload 40 0), (40, o_iload 41 1), (41, o_iload 42 2), (42, o_const 43 1), (43, o_iload 44 3), (44, o_ishl 45), (45, o_callv 3 9 k_X9_goPlan 48), (48, o_istore 50 5), (50, o_iload 52 4), (52, o_if_ne 60 55), (55, o_iload 57 5), (57, o_goto 77), (60, o_iload 62 4), (62, o_const 63 1), (63, o_icmp_ne 73 66), (66, o_aload 67 0), (67, o_getf 70 9 40), (70, o_goto 77), (73, o_aload 74 0), (74, o_getf 77 9 39), (77, o_iret)]
set_option maxRecDepth 20000 in
theorem t_X9_judge : ∀ q ∈ T_X9_judge, zS k_X9_judge q.1 q.2 := by
  unfold T_X9_judge
  refine List.forall_mem_cons.mpr ⟨s_aload_n (j := 0) (by decide +kernel) rfl rfl, ?_⟩
  refine List.forall_mem_cons.mpr ⟨s_iload_n (j := 1) (by decide +kernel) rfl rfl, ?_⟩
  refine List.forall_mem_cons.mpr ⟨s_callv (idx := 257) (k' := k_X9_isFrom) (T := TX9) (N := 54) rfl q5_184 q5_181 q5_183 qs_47 q1_10 de_X9_isFrom (by decide) (by decide +kernel) rfl, ?_⟩
  refine List.forall_mem_cons.mpr ⟨s_if_eq (off := 32) (by decide +kernel) (by decide) rfl, ?_⟩
  refine List.forall_mem_cons.mpr ⟨s_aload_n (j := 0) (by decide +kernel) rfl rfl, ?_⟩
  refine List.forall_mem_cons.mpr ⟨s_iload_n (j := 2) (by decide +kernel) rfl rfl, ?_⟩
  refine List.forall_mem_cons.mpr ⟨s_callv (idx := 249) (k' := k_X9_isSt) (T := TX9) (N := 54) rfl q5_163 q5_160 q5_162 qs_43 q1_10 de_X9_isSt (by decide) (by decide +kernel) rfl, ?_⟩
  refine List.forall_mem_cons.mpr ⟨s_if_eq (off := 24) (by decide +kernel) (by decide) rfl, ?_⟩
  refine List.forall_mem_cons.mpr ⟨s_aload_n (j := 0) (by decide +kernel) rfl rfl, ?_⟩
  refine List.forall_mem_cons.mpr ⟨s_iload_n (j := 3) (by decide +kernel) rfl rfl, ?_⟩
  refine List.forall_mem_cons.mpr ⟨s_callv (idx := 171) (k' := k_X9_isWind) (T := TX9) (N := 54) rfl q5_86 q5_83 q5_85 qs_35 q1_10 de_X9_isWind (by decide) (by decide +kernel) rfl, ?_⟩
  refine List.forall_mem_cons.mpr ⟨s_if_eq (off := 16) (by decide +kernel) (by decide) rfl, ?_⟩
  refine List.forall_mem_cons.mpr ⟨s_iload (by decide +kernel) rfl, ?_⟩
  refine List.forall_mem_cons.mpr ⟨s_i2l (by decide +kernel) rfl, ?_⟩
  refine List.forall_mem_cons.mpr ⟨s_lconst (z := 0) (by decide +kernel) (by decide) rfl, ?_⟩
  refine List.forall_mem_cons.mpr ⟨s_ldc2 (idx := 255) (y := (2)) (by decide +kernel) q5_168 rfl, ?_⟩
  refine List.forall_mem_cons.mpr ⟨s_calls (idx := 5) (k' := k_X9_within) q5_50 q5_48 q5_49 q1_10 de_X9_within (by decide) (by decide +kernel) rfl, ?_⟩
  refine List.forall_mem_cons.mpr ⟨s_if_ne (off := 5) (by decide +kernel) (by decide) rfl, ?_⟩
  refine List.forall_mem_cons.mpr ⟨s_iconst (by decide +kernel) rfl, ?_⟩
  refine List.forall_mem_cons.mpr ⟨s_iret rfl (by decide +kernel), ?_⟩
  refine List.forall_mem_cons.mpr ⟨s_aload_n (j := 0) (by decide +kernel) rfl rfl, ?_⟩
  refine List.forall_mem_cons.mpr ⟨s_iload_n (j := 1) (by decide +kernel) rfl rfl, ?_⟩
  refine List.forall_mem_cons.mpr ⟨s_iload_n (j := 2) (by decide +kernel) rfl rfl, ?_⟩
  refine List.forall_mem_cons.mpr ⟨s_iconst (by decide +kernel) rfl, ?_⟩
  refine List.forall_mem_cons.mpr ⟨s_iload_n (j := 3) (by decide +kernel) rfl rfl, ?_⟩
  refine List.forall_mem_cons.mpr ⟨s_ishl (by decide +kernel) rfl, ?_⟩
  refine List.forall_mem_cons.mpr ⟨s_callv (idx := 320) (k' := k_X9_goPlan) (T := TX9) (N := 54) rfl q6_59 q6_56 q6_58 qs_62 q1_10 de_X9_goPlan (by decide) (by decide +kernel) rfl, ?_⟩
  refine List.forall_mem_cons.mpr ⟨s_istore (by decide +kernel) (by decide) rfl, ?_⟩
  refine List.forall_mem_cons.mpr ⟨s_iload (by decide +kernel) rfl, ?_⟩
  refine List.forall_mem_cons.mpr ⟨s_if_ne (off := 8) (by decide +kernel) (by decide) rfl, ?_⟩
  refine List.forall_mem_cons.mpr ⟨s_iload (by decide +kernel) rfl, ?_⟩
  refine List.forall_mem_cons.mpr ⟨s_goto (off := 20) (by decide +kernel) (by decide), ?_⟩
  refine List.forall_mem_cons.mpr ⟨s_iload (by decide +kernel) rfl, ?_⟩
  refine List.forall_mem_cons.mpr ⟨s_iconst (by decide +kernel) rfl, ?_⟩
  refine List.forall_mem_cons.mpr ⟨s_icmp_ne (off := 10) (by decide +kernel) (by decide) rfl, ?_⟩
  refine List.forall_mem_cons.mpr ⟨s_aload_n (j := 0) (by decide +kernel) rfl rfl, ?_⟩
  refine List.forall_mem_cons.mpr ⟨s_getf (idx := 311) (C := RX9) (T := TX9) (N := 54) rfl inX9 (by decide) q4_151 (by decide +kernel) rfl, ?_⟩
  refine List.forall_mem_cons.mpr ⟨s_goto (off := 7) (by decide +kernel) (by decide), ?_⟩
  refine List.forall_mem_cons.mpr ⟨s_aload_n (j := 0) (by decide +kernel) rfl rfl, ?_⟩
  refine List.forall_mem_cons.mpr ⟨s_getf (idx := 308) (C := RX9) (T := TX9) (N := 54) rfl inX9 (by decide) q4_150 (by decide +kernel) rfl, ?_⟩
  refine List.forall_mem_cons.mpr ⟨s_iret rfl (by decide +kernel), ?_⟩
  exact fun q hq => absurd hq List.not_mem_nil
def T_X9_wet : List (Nat × zO) := [(0, o_aload 1 0), (1, o_iload 2 1), (2, o_callv 1 9 k_X9_isFrom 5), (5, o_if_eq 24 8), (8, o_aload 9 0), (9, o_iload 10 2), (10, o_callv 1 9 k_X9_isSt 13), (13, o_if_eq 24 16), (16, o_aload 17 0), (17, o_iload 18 3), (18, o_callv 1 9 k_X9_isWind 21), (21, o_if_ne 26 24), (24, o_const 25 (-1)), (25, o_iret), (26, o_aload 27 0), (27, o_iload 28 1), (28, o_iload 29 2), (29, o_const 30 1), (30, o_iload 31 3), (31, o_ishl 32), (32, o_callv 3 9 k_X9_goPlan 35), (35, o_const 37 (-2)), (37, o_icmp_ne 43 40), (40, o_const 42 (-2)), (42, o_iret), (43, o_aload 44 0), (44, o_getf 47 9 40), (47, o_istore 49 4), (49, o_aload 50 0), (50, o_aload 51 0), (51, o_getf 54 9 39), (54, o_iload 56 4), (56, o_callv 2 9 k_X9_waits 59), (59, o_if_eq 68 62), (62, o_iinc 65 4 1), (65, o_goto 49), (68, o_iload 70 4), (70, o_const 73 1439), (73, o_icmp_ne 79 76), (76, o_const 78 (-2)), (78, o_iret), (79, o_const 80 0), (80, o_istore 82 5), (82, o_iload 84 5), (84, o_aload 85 0), (85, o_getf 88 9 21), (88, o_icmp_ge 128 91), (91, o_aload 92 0), (92, o_iload 94 5), (94, o_aload 95 0), (95, o_getf 98 9 39), (98, o_callv 2 9 k_X9_otherEnd 101), (101, o_if_lt 122 104), (104, o_aload 105 0), (105, o_iload 107 5), (107, o_iload 109 4), (109, o_aload 110 0), (110, o_getf 113 9 41), (113, o_callv 3 9 k_X9_goes 116), (116, o_if_eq 122 119), (119, o_const 121 (-2)), (121, o_iret), (122, o_iinc 125 5 1), (125, o_goto 82), (128, o_iload 130 4), (130, o_iret)]
set_option maxRecDepth 20000 in
theorem t_X9_wet : ∀ q ∈ T_X9_wet, zS k_X9_wet q.1 q.2 := by
  unfold T_X9_wet
  refine List.forall_mem_cons.mpr ⟨s_aload_n (j := 0) (by decide +kernel) rfl rfl, ?_⟩
  refine List.forall_mem_cons.mpr ⟨s_iload_n (j := 1) (by decide +kernel) rfl rfl, ?_⟩
  refine List.forall_mem_cons.mpr ⟨s_callv (idx := 257) (k' := k_X9_isFrom) (T := TX9) (N := 54) rfl q5_184 q5_181 q5_183 qs_47 q1_10 de_X9_isFrom (by decide) (by decide +kernel) rfl, ?_⟩
  refine List.forall_mem_cons.mpr ⟨s_if_eq (off := 19) (by decide +kernel) (by decide) rfl, ?_⟩
  refine List.forall_mem_cons.mpr ⟨s_aload_n (j := 0) (by decide +kernel) rfl rfl, ?_⟩
  refine List.forall_mem_cons.mpr ⟨s_iload_n (j := 2) (by decide +kernel) rfl rfl, ?_⟩
  refine List.forall_mem_cons.mpr ⟨s_callv (idx := 249) (k' := k_X9_isSt) (T := TX9) (N := 54) rfl q5_163 q5_160 q5_162 qs_43 q1_10 de_X9_isSt (by decide) (by decide +kernel) rfl, ?_⟩
  refine List.forall_mem_cons.mpr ⟨s_if_eq (off := 11) (by decide +kernel) (by decide) rfl, ?_⟩
  refine List.forall_mem_cons.mpr ⟨s_aload_n (j := 0) (by decide +kernel) rfl rfl, ?_⟩
  refine List.forall_mem_cons.mpr ⟨s_iload_n (j := 3) (by decide +kernel) rfl rfl, ?_⟩
  refine List.forall_mem_cons.mpr ⟨s_callv (idx := 171) (k' := k_X9_isWind) (T := TX9) (N := 54) rfl q5_86 q5_83 q5_85 qs_35 q1_10 de_X9_isWind (by decide) (by decide +kernel) rfl, ?_⟩
  refine List.forall_mem_cons.mpr ⟨s_if_ne (off := 5) (by decide +kernel) (by decide) rfl, ?_⟩
  refine List.forall_mem_cons.mpr ⟨s_iconst (by decide +kernel) rfl, ?_⟩
  refine List.forall_mem_cons.mpr ⟨s_iret rfl (by decide +kernel), ?_⟩
  refine List.forall_mem_cons.mpr ⟨s_aload_n (j := 0) (by decide +kernel) rfl rfl, ?_⟩
  refine List.forall_mem_cons.mpr ⟨s_iload_n (j := 1) (by decide +kernel) rfl rfl, ?_⟩
  refine List.forall_mem_cons.mpr ⟨s_iload_n (j := 2) (by decide +kernel) rfl rfl, ?_⟩
  refine List.forall_mem_cons.mpr ⟨s_iconst (by decide +kernel) rfl, ?_⟩
  refine List.forall_mem_cons.mpr ⟨s_iload_n (j := 3) (by decide +kernel) rfl rfl, ?_⟩
  refine List.forall_mem_cons.mpr ⟨s_ishl (by decide +kernel) rfl, ?_⟩
  refine List.forall_mem_cons.mpr ⟨s_callv (idx := 320) (k' := k_X9_goPlan) (T := TX9) (N := 54) rfl q6_59 q6_56 q6_58 qs_62 q1_10 de_X9_goPlan (by decide) (by decide +kernel) rfl, ?_⟩
  refine List.forall_mem_cons.mpr ⟨s_bipush (by decide +kernel) (by decide) rfl, ?_⟩
  refine List.forall_mem_cons.mpr ⟨s_icmp_ne (off := 6) (by decide +kernel) (by decide) rfl, ?_⟩
  refine List.forall_mem_cons.mpr ⟨s_bipush (by decide +kernel) (by decide) rfl, ?_⟩
  refine List.forall_mem_cons.mpr ⟨s_iret rfl (by decide +kernel), ?_⟩
  refine List.forall_mem_cons.mpr ⟨s_aload_n (j := 0) (by decide +kernel) rfl rfl, ?_⟩
  refine List.forall_mem_cons.mpr ⟨s_getf (idx := 311) (C := RX9) (T := TX9) (N := 54) rfl inX9 (by decide) q4_151 (by decide +kernel) rfl, ?_⟩
  refine List.forall_mem_cons.mpr ⟨s_istore (by decide +kernel) (by decide) rfl, ?_⟩
  refine List.forall_mem_cons.mpr ⟨s_aload_n (j := 0) (by decide +kernel) rfl rfl, ?_⟩
  refine List.forall_mem_cons.mpr ⟨s_aload_n (j := 0) (by decide +kernel) rfl rfl, ?_⟩
  refine List.forall_mem_cons.mpr ⟨s_getf (idx := 308) (C := RX9) (T := TX9) (N := 54) rfl inX9 (by decide) q4_150 (by decide +kernel) rfl, ?_⟩
  refine List.forall_mem_cons.mpr ⟨s_iload (by decide +kernel) rfl, ?_⟩
  refine List.forall_mem_cons.mpr ⟨s_callv (idx := 224) (k' := k_X9_waits) (T := TX9) (N := 54) rfl q5_199 q5_196 q5_198 qs_50 q1_10 de_X9_waits (by decide) (by decide +kernel) rfl, ?_⟩
  refine List.forall_mem_cons.mpr ⟨s_if_eq (off := 9) (by decide +kernel) (by decide) rfl, ?_⟩
  refine List.forall_mem_cons.mpr ⟨s_iinc (by decide +kernel) (by decide) rfl, ?_⟩
  refine List.forall_mem_cons.mpr ⟨s_goto (off := (-16)) (by decide +kernel) (by decide), ?_⟩
  refine List.forall_mem_cons.mpr ⟨s_iload (by decide +kernel) rfl, ?_⟩
  refine List.forall_mem_cons.mpr ⟨s_sipush (by decide +kernel) (by decide) rfl, ?_⟩
  refine List.forall_mem_cons.mpr ⟨s_icmp_ne (off := 6) (by decide +kernel) (by decide) rfl, ?_⟩
  refine List.forall_mem_cons.mpr ⟨s_bipush (by decide +kernel) (by decide) rfl, ?_⟩
  refine List.forall_mem_cons.mpr ⟨s_iret rfl (by decide +kernel), ?_⟩
  refine List.forall_mem_cons.mpr ⟨s_iconst (by decide +kernel) rfl, ?_⟩
  refine List.forall_mem_cons.mpr ⟨s_istore (by decide +kernel) (by decide) rfl, ?_⟩
  refine List.forall_mem_cons.mpr ⟨s_iload (by decide +kernel) rfl, ?_⟩
  refine List.forall_mem_cons.mpr ⟨s_aload_n (j := 0) (by decide +kernel) rfl rfl, ?_⟩
  refine List.forall_mem_cons.mpr ⟨s_getf (idx := 184) (C := RX9) (T := TX9) (N := 54) rfl inX9 (by decide) q4_132 (by decide +kernel) rfl, ?_⟩
  refine List.forall_mem_cons.mpr ⟨s_icmp_ge (off := 40) (by decide +kernel) (by decide) rfl, ?_⟩
  refine List.forall_mem_cons.mpr ⟨s_aload_n (j := 0) (by decide +kernel) rfl rfl, ?_⟩
  refine List.forall_mem_cons.mpr ⟨s_iload (by decide +kernel) rfl, ?_⟩
  refine List.forall_mem_cons.mpr ⟨s_aload_n (j := 0) (by decide +kernel) rfl rfl, ?_⟩
  refine List.forall_mem_cons.mpr ⟨s_getf (idx := 308) (C := RX9) (T := TX9) (N := 54) rfl inX9 (by decide) q4_150 (by decide +kernel) rfl, ?_⟩
  refine List.forall_mem_cons.mpr ⟨s_callv (idx := 231) (k' := k_X9_otherEnd) (T := TX9) (N := 54) rfl q5_203 q5_200 q5_202 qs_51 q1_10 de_X9_otherEnd (by decide) (by decide +kernel) rfl, ?_⟩
  refine List.forall_mem_cons.mpr ⟨s_if_lt (off := 21) (by decide +kernel) (by decide) rfl, ?_⟩
  refine List.forall_mem_cons.mpr ⟨s_aload_n (j := 0) (by decide +kernel) rfl rfl, ?_⟩
  refine List.forall_mem_cons.mpr ⟨s_iload (by decide +kernel) rfl, ?_⟩
  refine List.forall_mem_cons.mpr ⟨s_iload (by decide +kernel) rfl, ?_⟩
  refine List.forall_mem_cons.mpr ⟨s_aload_n (j := 0) (by decide +kernel) rfl rfl, ?_⟩
  refine List.forall_mem_cons.mpr ⟨s_getf (idx := 314) (C := RX9) (T := TX9) (N := 54) rfl inX9 (by decide) q4_152 (by decide +kernel) rfl, ?_⟩
  refine List.forall_mem_cons.mpr ⟨s_callv (idx := 234) (k' := k_X9_goes) (T := TX9) (N := 54) rfl q5_176 q5_173 q5_175 qs_46 q1_10 de_X9_goes (by decide) (by decide +kernel) rfl, ?_⟩
  refine List.forall_mem_cons.mpr ⟨s_if_eq (off := 6) (by decide +kernel) (by decide) rfl, ?_⟩
  refine List.forall_mem_cons.mpr ⟨s_bipush (by decide +kernel) (by decide) rfl, ?_⟩
  refine List.forall_mem_cons.mpr ⟨s_iret rfl (by decide +kernel), ?_⟩
  refine List.forall_mem_cons.mpr ⟨s_iinc (by decide +kernel) (by decide) rfl, ?_⟩
  refine List.forall_mem_cons.mpr ⟨s_goto (off := (-43)) (by decide +kernel) (by decide), ?_⟩
  refine List.forall_mem_cons.mpr ⟨s_iload (by decide +kernel) rfl, ?_⟩
  refine List.forall_mem_cons.mpr ⟨s_iret rfl (by decide +kernel), ?_⟩
  exact fun q hq => absurd hq List.not_mem_nil
def T_X9_chance : List (Nat × zO) := [(0, o_aload 1 0), (1, o_iload 2 1), (2, o_callv 1 9 k_X9_isFrom 5), (5, o_if_eq 16 8), (8, o_aload 9 0), (9, o_iload 10 2), (10, o_callv 1 9 k_X9_isSt 13), (13, o_if_ne 18 16), (16, o_const 17 (-1)), (17, o_iret), (18, o_const 19 0), (19, o_istore 20 3), (20, o_const 21 0), (21, o_istore 23 4), (23, o_iload 25 4), (25, o_aload 26 0), (26, o_getf 29 9 16), (29, o_icmp_ge 67 32), (32, o_iload 33 3), (33, o_aload 34 0), (34, o_iload 35 1), (35, o_iload 36 2), (36, o_const 37 1), (37, o_iload 39 4), (39, o_ishl 40), (40, o_callv 3 9 k_X9_goPlan 43), (43, o_const 45 (-2)), (45, o_icmp_ne 58 48), (48, o_aload 49 0), (49, o_getf 52 9 19), (52, o_iload 54 4), (54, o_iald 55), (55, o_goto 59), (58, o_const 59 0), (59, o_iadd 60), (60, o_istore 61 3), (61, o_iinc 64 4 1), (64, o_goto 23), (67, o_const 70 1000), (70, o_iload 71 3), (71, o_imul 72), (72, o_aload 73 0), (73, o_aload 74 0), (74, o_callv 0 9 k_X9_allWinds 77), (77, o_callv 1 9 k_X9_chancesOf 80), (80, o_idiv 81), (81, o_iret)]
set_option maxRecDepth 20000 in
theorem t_X9_chance : ∀ q ∈ T_X9_chance, zS k_X9_chance q.1 q.2 := by
  unfold T_X9_chance
  refine List.forall_mem_cons.mpr ⟨s_aload_n (j := 0) (by decide +kernel) rfl rfl, ?_⟩
  refine List.forall_mem_cons.mpr ⟨s_iload_n (j := 1) (by decide +kernel) rfl rfl, ?_⟩
  refine List.forall_mem_cons.mpr ⟨s_callv (idx := 257) (k' := k_X9_isFrom) (T := TX9) (N := 54) rfl q5_184 q5_181 q5_183 qs_47 q1_10 de_X9_isFrom (by decide) (by decide +kernel) rfl, ?_⟩
  refine List.forall_mem_cons.mpr ⟨s_if_eq (off := 11) (by decide +kernel) (by decide) rfl, ?_⟩
  refine List.forall_mem_cons.mpr ⟨s_aload_n (j := 0) (by decide +kernel) rfl rfl, ?_⟩
  refine List.forall_mem_cons.mpr ⟨s_iload_n (j := 2) (by decide +kernel) rfl rfl, ?_⟩
  refine List.forall_mem_cons.mpr ⟨s_callv (idx := 249) (k' := k_X9_isSt) (T := TX9) (N := 54) rfl q5_163 q5_160 q5_162 qs_43 q1_10 de_X9_isSt (by decide) (by decide +kernel) rfl, ?_⟩
  refine List.forall_mem_cons.mpr ⟨s_if_ne (off := 5) (by decide +kernel) (by decide) rfl, ?_⟩
  refine List.forall_mem_cons.mpr ⟨s_iconst (by decide +kernel) rfl, ?_⟩
  refine List.forall_mem_cons.mpr ⟨s_iret rfl (by decide +kernel), ?_⟩
  refine List.forall_mem_cons.mpr ⟨s_iconst (by decide +kernel) rfl, ?_⟩
  refine List.forall_mem_cons.mpr ⟨s_istore_n (j := 3) (by decide +kernel) rfl (by decide) rfl, ?_⟩
  refine List.forall_mem_cons.mpr ⟨s_iconst (by decide +kernel) rfl, ?_⟩
  refine List.forall_mem_cons.mpr ⟨s_istore (by decide +kernel) (by decide) rfl, ?_⟩
  refine List.forall_mem_cons.mpr ⟨s_iload (by decide +kernel) rfl, ?_⟩
  refine List.forall_mem_cons.mpr ⟨s_aload_n (j := 0) (by decide +kernel) rfl rfl, ?_⟩
  refine List.forall_mem_cons.mpr ⟨s_getf (idx := 117) (C := RX9) (T := TX9) (N := 54) rfl inX9 (by decide) q4_127 (by decide +kernel) rfl, ?_⟩
  refine List.forall_mem_cons.mpr ⟨s_icmp_ge (off := 38) (by decide +kernel) (by decide) rfl, ?_⟩
  refine List.forall_mem_cons.mpr ⟨s_iload_n (j := 3) (by decide +kernel) rfl rfl, ?_⟩
  refine List.forall_mem_cons.mpr ⟨s_aload_n (j := 0) (by decide +kernel) rfl rfl, ?_⟩
  refine List.forall_mem_cons.mpr ⟨s_iload_n (j := 1) (by decide +kernel) rfl rfl, ?_⟩
  refine List.forall_mem_cons.mpr ⟨s_iload_n (j := 2) (by decide +kernel) rfl rfl, ?_⟩
  refine List.forall_mem_cons.mpr ⟨s_iconst (by decide +kernel) rfl, ?_⟩
  refine List.forall_mem_cons.mpr ⟨s_iload (by decide +kernel) rfl, ?_⟩
  refine List.forall_mem_cons.mpr ⟨s_ishl (by decide +kernel) rfl, ?_⟩
  refine List.forall_mem_cons.mpr ⟨s_callv (idx := 320) (k' := k_X9_goPlan) (T := TX9) (N := 54) rfl q6_59 q6_56 q6_58 qs_62 q1_10 de_X9_goPlan (by decide) (by decide +kernel) rfl, ?_⟩
  refine List.forall_mem_cons.mpr ⟨s_bipush (by decide +kernel) (by decide) rfl, ?_⟩
  refine List.forall_mem_cons.mpr ⟨s_icmp_ne (off := 13) (by decide +kernel) (by decide) rfl, ?_⟩
  refine List.forall_mem_cons.mpr ⟨s_aload_n (j := 0) (by decide +kernel) rfl rfl, ?_⟩
  refine List.forall_mem_cons.mpr ⟨s_getf (idx := 52) (C := RX9) (T := TX9) (N := 54) rfl inX9 (by decide) q4_130 (by decide +kernel) rfl, ?_⟩
  refine List.forall_mem_cons.mpr ⟨s_iload (by decide +kernel) rfl, ?_⟩
  refine List.forall_mem_cons.mpr ⟨s_iald (by decide +kernel) rfl, ?_⟩
  refine List.forall_mem_cons.mpr ⟨s_goto (off := 4) (by decide +kernel) (by decide), ?_⟩
  refine List.forall_mem_cons.mpr ⟨s_iconst (by decide +kernel) rfl, ?_⟩
  refine List.forall_mem_cons.mpr ⟨s_iadd (by decide +kernel) rfl, ?_⟩
  refine List.forall_mem_cons.mpr ⟨s_istore_n (j := 3) (by decide +kernel) rfl (by decide) rfl, ?_⟩
  refine List.forall_mem_cons.mpr ⟨s_iinc (by decide +kernel) (by decide) rfl, ?_⟩
  refine List.forall_mem_cons.mpr ⟨s_goto (off := (-41)) (by decide +kernel) (by decide), ?_⟩
  refine List.forall_mem_cons.mpr ⟨s_sipush (by decide +kernel) (by decide) rfl, ?_⟩
  refine List.forall_mem_cons.mpr ⟨s_iload_n (j := 3) (by decide +kernel) rfl rfl, ?_⟩
  refine List.forall_mem_cons.mpr ⟨s_imul (by decide +kernel) rfl, ?_⟩
  refine List.forall_mem_cons.mpr ⟨s_aload_n (j := 0) (by decide +kernel) rfl rfl, ?_⟩
  refine List.forall_mem_cons.mpr ⟨s_aload_n (j := 0) (by decide +kernel) rfl rfl, ?_⟩
  refine List.forall_mem_cons.mpr ⟨s_callv (idx := 276) (k' := k_X9_allWinds) (T := TX9) (N := 54) rfl q5_235 q5_232 q5_234 qs_57 q1_10 de_X9_allWinds (by decide) (by decide +kernel) rfl, ?_⟩
  refine List.forall_mem_cons.mpr ⟨s_callv (idx := 279) (k' := k_X9_chancesOf) (T := TX9) (N := 54) rfl q5_239 q5_236 q5_238 qs_58 q1_10 de_X9_chancesOf (by decide) (by decide +kernel) rfl, ?_⟩
  refine List.forall_mem_cons.mpr ⟨s_idiv (by decide +kernel) rfl, ?_⟩
  refine List.forall_mem_cons.mpr ⟨s_iret rfl (by decide +kernel), ?_⟩
  exact fun q hq => absurd hq List.not_mem_nil
def T_X9_mark : List (Nat × zO) := [(0, o_aload 1 0), (1, o_iload 2 1), (2, o_callv 1 9 k_X9_isFrom 5), (5, o_if_eq 38 8), (8, o_aload 9 0), (9, o_getf 12 9 42), (12, o_if_le 40 15), (15, o_iload 16 1), (16, o_const 19 10000), (19, o_irem 20), (20, o_aload 21 0), (21, o_getf 24 9 43), (24, o_aload 25 0), (25, o_getf 28 9 42), (28, o_const 29 1), (29, o_isub 30), (30, o_iald 31), (31, o_const 34 10000), (34, o_irem 35), (35, o_icmp_gt 40 38), (38, o_const 39 (-1)), (39, o_iret), (40, o_aload 41 0), (41, o_getf 44 9 42), (44, o_const 46 6), (46, o_icmp_ne 52 49), (49, o_const 51 (-3)), (51, o_iret), (52, o_aload 53 0), (53, o_getf 56 9 43), (56, o_aload 57 0), (57, o_getf 60 9 42), (60, o_iload 61 1), (61, o_iast 62), (62, o_aload 63 0), (63, o_dup 64), (64, o_getf 67 9 42), (67, o_const 68 1), (68, o_iadd 69), (69, o_putf 72 9 42), (72, o_aload 73 0), (73, o_getf 76 9 42), (76, o_iret)]
set_option maxRecDepth 20000 in
theorem t_X9_mark : ∀ q ∈ T_X9_mark, zS k_X9_mark q.1 q.2 := by
  unfold T_X9_mark
  refine List.forall_mem_cons.mpr ⟨s_aload_n (j := 0) (by decide +kernel) rfl rfl, ?_⟩
  refine List.forall_mem_cons.mpr ⟨s_iload_n (j := 1) (by decide +kernel) rfl rfl, ?_⟩
  refine List.forall_mem_cons.mpr ⟨s_callv (idx := 257) (k' := k_X9_isFrom) (T := TX9) (N := 54) rfl q5_184 q5_181 q5_183 qs_47 q1_10 de_X9_isFrom (by decide) (by decide +kernel) rfl, ?_⟩
  refine List.forall_mem_cons.mpr ⟨s_if_eq (off := 33) (by decide +kernel) (by decide) rfl, ?_⟩
  refine List.forall_mem_cons.mpr ⟨s_aload_n (j := 0) (by decide +kernel) rfl rfl, ?_⟩
  refine List.forall_mem_cons.mpr ⟨s_getf (idx := 323) (C := RX9) (T := TX9) (N := 54) rfl inX9 (by decide) q4_153 (by decide +kernel) rfl, ?_⟩
  refine List.forall_mem_cons.mpr ⟨s_if_le (off := 28) (by decide +kernel) (by decide) rfl, ?_⟩
  refine List.forall_mem_cons.mpr ⟨s_iload_n (j := 1) (by decide +kernel) rfl rfl, ?_⟩
  refine List.forall_mem_cons.mpr ⟨s_sipush (by decide +kernel) (by decide) rfl, ?_⟩
  refine List.forall_mem_cons.mpr ⟨s_irem (by decide +kernel) rfl, ?_⟩
  refine List.forall_mem_cons.mpr ⟨s_aload_n (j := 0) (by decide +kernel) rfl rfl, ?_⟩
  refine List.forall_mem_cons.mpr ⟨s_getf (idx := 95) (C := RX9) (T := TX9) (N := 54) rfl inX9 (by decide) q4_154 (by decide +kernel) rfl, ?_⟩
  refine List.forall_mem_cons.mpr ⟨s_aload_n (j := 0) (by decide +kernel) rfl rfl, ?_⟩
  refine List.forall_mem_cons.mpr ⟨s_getf (idx := 323) (C := RX9) (T := TX9) (N := 54) rfl inX9 (by decide) q4_153 (by decide +kernel) rfl, ?_⟩
  refine List.forall_mem_cons.mpr ⟨s_iconst (by decide +kernel) rfl, ?_⟩
  refine List.forall_mem_cons.mpr ⟨s_isub (by decide +kernel) rfl, ?_⟩
  refine List.forall_mem_cons.mpr ⟨s_iald (by decide +kernel) rfl, ?_⟩
  refine List.forall_mem_cons.mpr ⟨s_sipush (by decide +kernel) (by decide) rfl, ?_⟩
  refine List.forall_mem_cons.mpr ⟨s_irem (by decide +kernel) rfl, ?_⟩
  refine List.forall_mem_cons.mpr ⟨s_icmp_gt (off := 5) (by decide +kernel) (by decide) rfl, ?_⟩
  refine List.forall_mem_cons.mpr ⟨s_iconst (by decide +kernel) rfl, ?_⟩
  refine List.forall_mem_cons.mpr ⟨s_iret rfl (by decide +kernel), ?_⟩
  refine List.forall_mem_cons.mpr ⟨s_aload_n (j := 0) (by decide +kernel) rfl rfl, ?_⟩
  refine List.forall_mem_cons.mpr ⟨s_getf (idx := 323) (C := RX9) (T := TX9) (N := 54) rfl inX9 (by decide) q4_153 (by decide +kernel) rfl, ?_⟩
  refine List.forall_mem_cons.mpr ⟨s_bipush (by decide +kernel) (by decide) rfl, ?_⟩
  refine List.forall_mem_cons.mpr ⟨s_icmp_ne (off := 6) (by decide +kernel) (by decide) rfl, ?_⟩
  refine List.forall_mem_cons.mpr ⟨s_bipush (by decide +kernel) (by decide) rfl, ?_⟩
  refine List.forall_mem_cons.mpr ⟨s_iret rfl (by decide +kernel), ?_⟩
  refine List.forall_mem_cons.mpr ⟨s_aload_n (j := 0) (by decide +kernel) rfl rfl, ?_⟩
  refine List.forall_mem_cons.mpr ⟨s_getf (idx := 95) (C := RX9) (T := TX9) (N := 54) rfl inX9 (by decide) q4_154 (by decide +kernel) rfl, ?_⟩
  refine List.forall_mem_cons.mpr ⟨s_aload_n (j := 0) (by decide +kernel) rfl rfl, ?_⟩
  refine List.forall_mem_cons.mpr ⟨s_getf (idx := 323) (C := RX9) (T := TX9) (N := 54) rfl inX9 (by decide) q4_153 (by decide +kernel) rfl, ?_⟩
  refine List.forall_mem_cons.mpr ⟨s_iload_n (j := 1) (by decide +kernel) rfl rfl, ?_⟩
  refine List.forall_mem_cons.mpr ⟨s_iast (by decide +kernel) rfl, ?_⟩
  refine List.forall_mem_cons.mpr ⟨s_aload_n (j := 0) (by decide +kernel) rfl rfl, ?_⟩
  refine List.forall_mem_cons.mpr ⟨s_dup (by decide +kernel) rfl, ?_⟩
  refine List.forall_mem_cons.mpr ⟨s_getf (idx := 323) (C := RX9) (T := TX9) (N := 54) rfl inX9 (by decide) q4_153 (by decide +kernel) rfl, ?_⟩
  refine List.forall_mem_cons.mpr ⟨s_iconst (by decide +kernel) rfl, ?_⟩
  refine List.forall_mem_cons.mpr ⟨s_iadd (by decide +kernel) rfl, ?_⟩
  refine List.forall_mem_cons.mpr ⟨s_putf (idx := 323) (C := RX9) (T := TX9) (N := 54) rfl inX9 tyX9_ok nmX9 (by decide) rfl (tyX9_ok 42 (by decide)) (Or.inl ⟨rfl, kdI 9 42 (by decide)⟩) q4_153 (by decide +kernel) rfl, ?_⟩
  refine List.forall_mem_cons.mpr ⟨s_aload_n (j := 0) (by decide +kernel) rfl rfl, ?_⟩
  refine List.forall_mem_cons.mpr ⟨s_getf (idx := 323) (C := RX9) (T := TX9) (N := 54) rfl inX9 (by decide) q4_153 (by decide +kernel) rfl, ?_⟩
  refine List.forall_mem_cons.mpr ⟨s_iret rfl (by decide +kernel), ?_⟩
  exact fun q hq => absurd hq List.not_mem_nil
def T_X9_unmark : List (Nat × zO) := [(0, o_aload 1 0), (1, o_getf 4 9 42), (4, o_istore 5 1), (5, o_aload 6 0), (6, o_const 7 0), (7, o_putf 10 9 42), (10, o_iload 11 1), (11, o_iret)]
set_option maxRecDepth 20000 in
theorem t_X9_unmark : ∀ q ∈ T_X9_unmark, zS k_X9_unmark q.1 q.2 := by
  unfold T_X9_unmark
  refine List.forall_mem_cons.mpr ⟨s_aload_n (j := 0) (by decide +kernel) rfl rfl, ?_⟩
  refine List.forall_mem_cons.mpr ⟨s_getf (idx := 323) (C := RX9) (T := TX9) (N := 54) rfl inX9 (by decide) q4_153 (by decide +kernel) rfl, ?_⟩
  refine List.forall_mem_cons.mpr ⟨s_istore_n (j := 1) (by decide +kernel) rfl (by decide) rfl, ?_⟩
  refine List.forall_mem_cons.mpr ⟨s_aload_n (j := 0) (by decide +kernel) rfl rfl, ?_⟩
  refine List.forall_mem_cons.mpr ⟨s_iconst (by decide +kernel) rfl, ?_⟩
  refine List.forall_mem_cons.mpr ⟨s_putf (idx := 323) (C := RX9) (T := TX9) (N := 54) rfl inX9 tyX9_ok nmX9 (by decide) rfl (tyX9_ok 42 (by decide)) (Or.inl ⟨rfl, kdI 9 42 (by decide)⟩) q4_153 (by decide +kernel) rfl, ?_⟩
  refine List.forall_mem_cons.mpr ⟨s_iload_n (j := 1) (by decide +kernel) rfl rfl, ?_⟩
  refine List.forall_mem_cons.mpr ⟨s_iret rfl (by decide +kernel), ?_⟩
  exact fun q hq => absurd hq List.not_mem_nil
def T_X9_old : List (Nat × zO) := [(0, o_aload 1 0), (1, o_iload 2 1), (2, o_callv 1 9 k_X9_isSt 5), (5, o_if_ne 10 8), (8, o_const 9 (-1)), (9, o_iret), (10, o_aload 11 0), (11, o_getf 14 9 42), (14, o_const 15 2), (15, o_icmp_ge 21 18), (18, o_const 20 (-5)), (20, o_iret), (21, o_const 22 0), (22, o_istore 23 2), (23, o_const 24 0), (24, o_istore 25 3), (25, o_iload 26 3), (26, o_aload 27 0), (27, o_getf 30 9 16), (30, o_icmp_ge 125 33), (33, o_const 34 1), (34, o_istore 36 4), (36, o_const 37 1), (37, o_istore 39 5), (39, o_iload 41 5), (41, o_aload 42 0), (42, o_getf 45 9 42), (45, o_icmp_ge 104 48), (48, o_iload 50 4), (50, o_if_eq 104 53), (53, o_aload 54 0), (54, o_aload 55 0), (55, o_getf 58 9 43), (58, o_iload 60 5), (60, o_const 61 1), (61, o_isub 62), (62, o_iald 63), (63, o_iload 64 1), (64, o_const 65 1), (65, o_iload 66 3), (66, o_ishl 67), (67, o_callv 3 9 k_X9_reach 70), (70, o_aload 71 0), (71, o_aload 72 0), (72, o_getf 75 9 43), (75, o_iload 77 5), (77, o_iald 78), (78, o_const 81 10000), (81, o_idiv 82), (82, o_aload 83 0), (83, o_getf 86 9 43), (86, o_iload 88 5), (88, o_iald 89), (89, o_const 92 10000), (92, o_irem 93), (93, o_callv 2 9 k_X9_isAt 96), (96, o_istore 98 4), (98, o_iinc 101 5 1), (101, o_goto 39), (104, o_iload 105 2), (105, o_iload 107 4), (107, o_if_eq 116 110), (110, o_const 111 1), (111, o_iload 112 3), (112, o_ishl 113), (113, o_goto 117), (116, o_const 117 0), (117, o_ior 118), (118, o_istore 119 2), (119, o_iinc 122 3 1), (122, o_goto 25), (125, o_iload 126 2), (126, o_iret)]
set_option maxRecDepth 20000 in
theorem t_X9_old : ∀ q ∈ T_X9_old, zS k_X9_old q.1 q.2 := by
  unfold T_X9_old
  refine List.forall_mem_cons.mpr ⟨s_aload_n (j := 0) (by decide +kernel) rfl rfl, ?_⟩
  refine List.forall_mem_cons.mpr ⟨s_iload_n (j := 1) (by decide +kernel) rfl rfl, ?_⟩
  refine List.forall_mem_cons.mpr ⟨s_callv (idx := 249) (k' := k_X9_isSt) (T := TX9) (N := 54) rfl q5_163 q5_160 q5_162 qs_43 q1_10 de_X9_isSt (by decide) (by decide +kernel) rfl, ?_⟩
  refine List.forall_mem_cons.mpr ⟨s_if_ne (off := 5) (by decide +kernel) (by decide) rfl, ?_⟩
  refine List.forall_mem_cons.mpr ⟨s_iconst (by decide +kernel) rfl, ?_⟩
  refine List.forall_mem_cons.mpr ⟨s_iret rfl (by decide +kernel), ?_⟩
  refine List.forall_mem_cons.mpr ⟨s_aload_n (j := 0) (by decide +kernel) rfl rfl, ?_⟩
  refine List.forall_mem_cons.mpr ⟨s_getf (idx := 323) (C := RX9) (T := TX9) (N := 54) rfl inX9 (by decide) q4_153 (by decide +kernel) rfl, ?_⟩
  refine List.forall_mem_cons.mpr ⟨s_iconst (by decide +kernel) rfl, ?_⟩
  refine List.forall_mem_cons.mpr ⟨s_icmp_ge (off := 6) (by decide +kernel) (by decide) rfl, ?_⟩
  refine List.forall_mem_cons.mpr ⟨s_bipush (by decide +kernel) (by decide) rfl, ?_⟩
  refine List.forall_mem_cons.mpr ⟨s_iret rfl (by decide +kernel), ?_⟩
  refine List.forall_mem_cons.mpr ⟨s_iconst (by decide +kernel) rfl, ?_⟩
  refine List.forall_mem_cons.mpr ⟨s_istore_n (j := 2) (by decide +kernel) rfl (by decide) rfl, ?_⟩
  refine List.forall_mem_cons.mpr ⟨s_iconst (by decide +kernel) rfl, ?_⟩
  refine List.forall_mem_cons.mpr ⟨s_istore_n (j := 3) (by decide +kernel) rfl (by decide) rfl, ?_⟩
  refine List.forall_mem_cons.mpr ⟨s_iload_n (j := 3) (by decide +kernel) rfl rfl, ?_⟩
  refine List.forall_mem_cons.mpr ⟨s_aload_n (j := 0) (by decide +kernel) rfl rfl, ?_⟩
  refine List.forall_mem_cons.mpr ⟨s_getf (idx := 117) (C := RX9) (T := TX9) (N := 54) rfl inX9 (by decide) q4_127 (by decide +kernel) rfl, ?_⟩
  refine List.forall_mem_cons.mpr ⟨s_icmp_ge (off := 95) (by decide +kernel) (by decide) rfl, ?_⟩
  refine List.forall_mem_cons.mpr ⟨s_iconst (by decide +kernel) rfl, ?_⟩
  refine List.forall_mem_cons.mpr ⟨s_istore (by decide +kernel) (by decide) rfl, ?_⟩
  refine List.forall_mem_cons.mpr ⟨s_iconst (by decide +kernel) rfl, ?_⟩
  refine List.forall_mem_cons.mpr ⟨s_istore (by decide +kernel) (by decide) rfl, ?_⟩
  refine List.forall_mem_cons.mpr ⟨s_iload (by decide +kernel) rfl, ?_⟩
  refine List.forall_mem_cons.mpr ⟨s_aload_n (j := 0) (by decide +kernel) rfl rfl, ?_⟩
  refine List.forall_mem_cons.mpr ⟨s_getf (idx := 323) (C := RX9) (T := TX9) (N := 54) rfl inX9 (by decide) q4_153 (by decide +kernel) rfl, ?_⟩
  refine List.forall_mem_cons.mpr ⟨s_icmp_ge (off := 59) (by decide +kernel) (by decide) rfl, ?_⟩
  refine List.forall_mem_cons.mpr ⟨s_iload (by decide +kernel) rfl, ?_⟩
  refine List.forall_mem_cons.mpr ⟨s_if_eq (off := 54) (by decide +kernel) (by decide) rfl, ?_⟩
  refine List.forall_mem_cons.mpr ⟨s_aload_n (j := 0) (by decide +kernel) rfl rfl, ?_⟩
  refine List.forall_mem_cons.mpr ⟨s_aload_n (j := 0) (by decide +kernel) rfl rfl, ?_⟩
  refine List.forall_mem_cons.mpr ⟨s_getf (idx := 95) (C := RX9) (T := TX9) (N := 54) rfl inX9 (by decide) q4_154 (by decide +kernel) rfl, ?_⟩
  refine List.forall_mem_cons.mpr ⟨s_iload (by decide +kernel) rfl, ?_⟩
  refine List.forall_mem_cons.mpr ⟨s_iconst (by decide +kernel) rfl, ?_⟩
  refine List.forall_mem_cons.mpr ⟨s_isub (by decide +kernel) rfl, ?_⟩
  refine List.forall_mem_cons.mpr ⟨s_iald (by decide +kernel) rfl, ?_⟩
  refine List.forall_mem_cons.mpr ⟨s_iload_n (j := 1) (by decide +kernel) rfl rfl, ?_⟩
  refine List.forall_mem_cons.mpr ⟨s_iconst (by decide +kernel) rfl, ?_⟩
  refine List.forall_mem_cons.mpr ⟨s_iload_n (j := 3) (by decide +kernel) rfl rfl, ?_⟩
  refine List.forall_mem_cons.mpr ⟨s_ishl (by decide +kernel) rfl, ?_⟩
  refine List.forall_mem_cons.mpr ⟨s_callv (idx := 260) (k' := k_X9_reach) (T := TX9) (N := 54) rfl q5_188 q5_185 q5_187 qs_48 q1_10 de_X9_reach (by decide) (by decide +kernel) rfl, ?_⟩
  refine List.forall_mem_cons.mpr ⟨s_aload_n (j := 0) (by decide +kernel) rfl rfl, ?_⟩
  refine List.forall_mem_cons.mpr ⟨s_aload_n (j := 0) (by decide +kernel) rfl rfl, ?_⟩
  refine List.forall_mem_cons.mpr ⟨s_getf (idx := 95) (C := RX9) (T := TX9) (N := 54) rfl inX9 (by decide) q4_154 (by decide +kernel) rfl, ?_⟩
  refine List.forall_mem_cons.mpr ⟨s_iload (by decide +kernel) rfl, ?_⟩
  refine List.forall_mem_cons.mpr ⟨s_iald (by decide +kernel) rfl, ?_⟩
  refine List.forall_mem_cons.mpr ⟨s_sipush (by decide +kernel) (by decide) rfl, ?_⟩
  refine List.forall_mem_cons.mpr ⟨s_idiv (by decide +kernel) rfl, ?_⟩
  refine List.forall_mem_cons.mpr ⟨s_aload_n (j := 0) (by decide +kernel) rfl rfl, ?_⟩
  refine List.forall_mem_cons.mpr ⟨s_getf (idx := 95) (C := RX9) (T := TX9) (N := 54) rfl inX9 (by decide) q4_154 (by decide +kernel) rfl, ?_⟩
  refine List.forall_mem_cons.mpr ⟨s_iload (by decide +kernel) rfl, ?_⟩
  refine List.forall_mem_cons.mpr ⟨s_iald (by decide +kernel) rfl, ?_⟩
  refine List.forall_mem_cons.mpr ⟨s_sipush (by decide +kernel) (by decide) rfl, ?_⟩
  refine List.forall_mem_cons.mpr ⟨s_irem (by decide +kernel) rfl, ?_⟩
  refine List.forall_mem_cons.mpr ⟨s_callv (idx := 246) (k' := k_X9_isAt) (T := TX9) (N := 54) rfl q5_211 q5_208 q5_210 qs_53 q1_10 de_X9_isAt (by decide) (by decide +kernel) rfl, ?_⟩
  refine List.forall_mem_cons.mpr ⟨s_istore (by decide +kernel) (by decide) rfl, ?_⟩
  refine List.forall_mem_cons.mpr ⟨s_iinc (by decide +kernel) (by decide) rfl, ?_⟩
  refine List.forall_mem_cons.mpr ⟨s_goto (off := (-62)) (by decide +kernel) (by decide), ?_⟩
  refine List.forall_mem_cons.mpr ⟨s_iload_n (j := 2) (by decide +kernel) rfl rfl, ?_⟩
  refine List.forall_mem_cons.mpr ⟨s_iload (by decide +kernel) rfl, ?_⟩
  refine List.forall_mem_cons.mpr ⟨s_if_eq (off := 9) (by decide +kernel) (by decide) rfl, ?_⟩
  refine List.forall_mem_cons.mpr ⟨s_iconst (by decide +kernel) rfl, ?_⟩
  refine List.forall_mem_cons.mpr ⟨s_iload_n (j := 3) (by decide +kernel) rfl rfl, ?_⟩
  refine List.forall_mem_cons.mpr ⟨s_ishl (by decide +kernel) rfl, ?_⟩
  refine List.forall_mem_cons.mpr ⟨s_goto (off := 4) (by decide +kernel) (by decide), ?_⟩
  refine List.forall_mem_cons.mpr ⟨s_iconst (by decide +kernel) rfl, ?_⟩
  refine List.forall_mem_cons.mpr ⟨s_ior (by decide +kernel) rfl, ?_⟩
  refine List.forall_mem_cons.mpr ⟨s_istore_n (j := 2) (by decide +kernel) rfl (by decide) rfl, ?_⟩
  refine List.forall_mem_cons.mpr ⟨s_iinc (by decide +kernel) (by decide) rfl, ?_⟩
  refine List.forall_mem_cons.mpr ⟨s_goto (off := (-97)) (by decide +kernel) (by decide), ?_⟩
  refine List.forall_mem_cons.mpr ⟨s_iload_n (j := 2) (by decide +kernel) rfl rfl, ?_⟩
  refine List.forall_mem_cons.mpr ⟨s_iret rfl (by decide +kernel), ?_⟩
  exact fun q hq => absurd hq List.not_mem_nil
def T_X9_isBody : List (Nat × zO) := [(0, o_iload 1 1), (1, o_i2l 2), (2, o_lconst 3 0), (3, o_aload 4 0), (4, o_getf 7 9 44), (7, o_const 8 1), (8, o_isub 9), (9, o_i2l 10), (10, o_calls 3 k_X9_within 13), (13, o_zret)]
set_option maxRecDepth 20000 in
theorem t_X9_isBody : ∀ q ∈ T_X9_isBody, zS k_X9_isBody q.1 q.2 := by
  unfold T_X9_isBody
  refine List.forall_mem_cons.mpr ⟨s_iload_n (j := 1) (by decide +kernel) rfl rfl, ?_⟩
  refine List.forall_mem_cons.mpr ⟨s_i2l (by decide +kernel) rfl, ?_⟩
  refine List.forall_mem_cons.mpr ⟨s_lconst (z := 0) (by decide +kernel) (by decide) rfl, ?_⟩
  refine List.forall_mem_cons.mpr ⟨s_aload_n (j := 0) (by decide +kernel) rfl rfl, ?_⟩
  refine List.forall_mem_cons.mpr ⟨s_getf (idx := 326) (C := RX9) (T := TX9) (N := 54) rfl inX9 (by decide) q4_155 (by decide +kernel) rfl, ?_⟩
  refine List.forall_mem_cons.mpr ⟨s_iconst (by decide +kernel) rfl, ?_⟩
  refine List.forall_mem_cons.mpr ⟨s_isub (by decide +kernel) rfl, ?_⟩
  refine List.forall_mem_cons.mpr ⟨s_i2l (by decide +kernel) rfl, ?_⟩
  refine List.forall_mem_cons.mpr ⟨s_calls (idx := 5) (k' := k_X9_within) q5_50 q5_48 q5_49 q1_10 de_X9_within (by decide) (by decide +kernel) rfl, ?_⟩
  refine List.forall_mem_cons.mpr ⟨s_zret rfl (by decide +kernel), ?_⟩
  exact fun q hq => absurd hq List.not_mem_nil
def T_X9_kindOf : List (Nat × zO) := [(0, o_aload 1 0), (1, o_getf 4 9 45), (4, o_iload 5 1), (5, o_iald 6), (6, o_iret)]
set_option maxRecDepth 20000 in
theorem t_X9_kindOf : ∀ q ∈ T_X9_kindOf, zS k_X9_kindOf q.1 q.2 := by
  unfold T_X9_kindOf
  refine List.forall_mem_cons.mpr ⟨s_aload_n (j := 0) (by decide +kernel) rfl rfl, ?_⟩
  refine List.forall_mem_cons.mpr ⟨s_getf (idx := 98) (C := RX9) (T := TX9) (N := 54) rfl inX9 (by decide) q4_156 (by decide +kernel) rfl, ?_⟩
  refine List.forall_mem_cons.mpr ⟨s_iload_n (j := 1) (by decide +kernel) rfl rfl, ?_⟩
  refine List.forall_mem_cons.mpr ⟨s_iald (by decide +kernel) rfl, ?_⟩
  refine List.forall_mem_cons.mpr ⟨s_iret rfl (by decide +kernel), ?_⟩
  exact fun q hq => absurd hq List.not_mem_nil
def T_X9_body : List (Nat × zO) := [(0, o_iload 1 1), (1, o_i2l 2), (2, o_lconst 3 0), (3, o_lconst 6 (6)), (6, o_calls 3 k_X9_within 9), (9, o_if_ne 14 12), (12, o_const 13 (-1)), (13, o_iret), (14, o_aload 15 0), (15, o_getf 18 9 44), (18, o_const 20 50), (20, o_icmp_ne 26 23), (23, o_const 25 (-3)), (25, o_iret), (26, o_aload 27 0), (27, o_getf 30 9 45), (30, o_aload 31 0), (31, o_getf 34 9 44), (34, o_iload 35 1), (35, o_iast 36), (36, o_aload 37 0), (37, o_dup 38), (38, o_getf 41 9 44), (41, o_const 42 1), (42, o_iadd 43), (43, o_putf 46 9 44), (46, o_aload 47 0), (47, o_getf 50 9 44), (50, o_const 51 1), (51, o_isub 52), (52, o_iret)]
set_option maxRecDepth 20000 in
theorem t_X9_body : ∀ q ∈ T_X9_body, zS k_X9_body q.1 q.2 := by
  unfold T_X9_body
  refine List.forall_mem_cons.mpr ⟨s_iload_n (j := 1) (by decide +kernel) rfl rfl, ?_⟩
  refine List.forall_mem_cons.mpr ⟨s_i2l (by decide +kernel) rfl, ?_⟩
  refine List.forall_mem_cons.mpr ⟨s_lconst (z := 0) (by decide +kernel) (by decide) rfl, ?_⟩
  refine List.forall_mem_cons.mpr ⟨s_ldc2 (idx := 329) (y := (6)) (by decide +kernel) q6_88 rfl, ?_⟩
  refine List.forall_mem_cons.mpr ⟨s_calls (idx := 5) (k' := k_X9_within) q5_50 q5_48 q5_49 q1_10 de_X9_within (by decide) (by decide +kernel) rfl, ?_⟩
  refine List.forall_mem_cons.mpr ⟨s_if_ne (off := 5) (by decide +kernel) (by decide) rfl, ?_⟩
  refine List.forall_mem_cons.mpr ⟨s_iconst (by decide +kernel) rfl, ?_⟩
  refine List.forall_mem_cons.mpr ⟨s_iret rfl (by decide +kernel), ?_⟩
  refine List.forall_mem_cons.mpr ⟨s_aload_n (j := 0) (by decide +kernel) rfl rfl, ?_⟩
  refine List.forall_mem_cons.mpr ⟨s_getf (idx := 326) (C := RX9) (T := TX9) (N := 54) rfl inX9 (by decide) q4_155 (by decide +kernel) rfl, ?_⟩
  refine List.forall_mem_cons.mpr ⟨s_bipush (by decide +kernel) (by decide) rfl, ?_⟩
  refine List.forall_mem_cons.mpr ⟨s_icmp_ne (off := 6) (by decide +kernel) (by decide) rfl, ?_⟩
  refine List.forall_mem_cons.mpr ⟨s_bipush (by decide +kernel) (by decide) rfl, ?_⟩
  refine List.forall_mem_cons.mpr ⟨s_iret rfl (by decide +kernel), ?_⟩
  refine List.forall_mem_cons.mpr ⟨s_aload_n (j := 0) (by decide +kernel) rfl rfl, ?_⟩
  refine List.forall_mem_cons.mpr ⟨s_getf (idx := 98) (C := RX9) (T := TX9) (N := 54) rfl inX9 (by decide) q4_156 (by decide +kernel) rfl, ?_⟩
  refine List.forall_mem_cons.mpr ⟨s_aload_n (j := 0) (by decide +kernel) rfl rfl, ?_⟩
  refine List.forall_mem_cons.mpr ⟨s_getf (idx := 326) (C := RX9) (T := TX9) (N := 54) rfl inX9 (by decide) q4_155 (by decide +kernel) rfl, ?_⟩
  refine List.forall_mem_cons.mpr ⟨s_iload_n (j := 1) (by decide +kernel) rfl rfl, ?_⟩
  refine List.forall_mem_cons.mpr ⟨s_iast (by decide +kernel) rfl, ?_⟩
  refine List.forall_mem_cons.mpr ⟨s_aload_n (j := 0) (by decide +kernel) rfl rfl, ?_⟩
  refine List.forall_mem_cons.mpr ⟨s_dup (by decide +kernel) rfl, ?_⟩
  refine List.forall_mem_cons.mpr ⟨s_getf (idx := 326) (C := RX9) (T := TX9) (N := 54) rfl inX9 (by decide) q4_155 (by decide +kernel) rfl, ?_⟩
  refine List.forall_mem_cons.mpr ⟨s_iconst (by decide +kernel) rfl, ?_⟩
  refine List.forall_mem_cons.mpr ⟨s_iadd (by decide +kernel) rfl, ?_⟩
  refine List.forall_mem_cons.mpr ⟨s_putf (idx := 326) (C := RX9) (T := TX9) (N := 54) rfl inX9 tyX9_ok nmX9 (by decide) rfl (tyX9_ok 44 (by decide)) (Or.inl ⟨rfl, kdI 9 44 (by decide)⟩) q4_155 (by decide +kernel) rfl, ?_⟩
  refine List.forall_mem_cons.mpr ⟨s_aload_n (j := 0) (by decide +kernel) rfl rfl, ?_⟩
  refine List.forall_mem_cons.mpr ⟨s_getf (idx := 326) (C := RX9) (T := TX9) (N := 54) rfl inX9 (by decide) q4_155 (by decide +kernel) rfl, ?_⟩
  refine List.forall_mem_cons.mpr ⟨s_iconst (by decide +kernel) rfl, ?_⟩
  refine List.forall_mem_cons.mpr ⟨s_isub (by decide +kernel) rfl, ?_⟩
  refine List.forall_mem_cons.mpr ⟨s_iret rfl (by decide +kernel), ?_⟩
  exact fun q hq => absurd hq List.not_mem_nil
def T_X9_above : List (Nat × zO) := [(0, o_iload 1 0), (1, o_const 2 3), (2, o_icmp_ne 9 5), (5, o_const 6 2), (6, o_goto 19), (9, o_iload 10 0), (10, o_const 11 5), (11, o_icmp_ne 18 14), (14, o_const 15 1), (15, o_goto 19), (18, o_const 19 0), (19, o_iret)]
set_option maxRecDepth 20000 in
theorem t_X9_above : ∀ q ∈ T_X9_above, zS k_X9_above q.1 q.2 := by
  unfold T_X9_above
  refine List.forall_mem_cons.mpr ⟨s_iload_n (j := 0) (by decide +kernel) rfl rfl, ?_⟩
  refine List.forall_mem_cons.mpr ⟨s_iconst (by decide +kernel) rfl, ?_⟩
  refine List.forall_mem_cons.mpr ⟨s_icmp_ne (off := 7) (by decide +kernel) (by decide) rfl, ?_⟩
  refine List.forall_mem_cons.mpr ⟨s_iconst (by decide +kernel) rfl, ?_⟩
  refine List.forall_mem_cons.mpr ⟨s_goto (off := 13) (by decide +kernel) (by decide), ?_⟩
  refine List.forall_mem_cons.mpr ⟨s_iload_n (j := 0) (by decide +kernel) rfl rfl, ?_⟩
  refine List.forall_mem_cons.mpr ⟨s_iconst (by decide +kernel) rfl, ?_⟩
  refine List.forall_mem_cons.mpr ⟨s_icmp_ne (off := 7) (by decide +kernel) (by decide) rfl, ?_⟩
  refine List.forall_mem_cons.mpr ⟨s_iconst (by decide +kernel) rfl, ?_⟩
  refine List.forall_mem_cons.mpr ⟨s_goto (off := 4) (by decide +kernel) (by decide), ?_⟩
  refine List.forall_mem_cons.mpr ⟨s_iconst (by decide +kernel) rfl, ?_⟩
  refine List.forall_mem_cons.mpr ⟨s_iret rfl (by decide +kernel), ?_⟩
  exact fun q hq => absurd hq List.not_mem_nil
def T_X9_begins : List (Nat × zO) := [(0, o_aload 1 0), (1, o_getf 4 9 47), (4, o_const 6 24), (6, o_icmp_ge 19 9), (9, o_aload 10 0), (10, o_getf 13 9 46), (13, o_aload 14 0), (14, o_getf 17 9 47), (17, o_iload 18 1), (18, o_iast 19), (19, o_aload 20 0), (20, o_dup 21), (21, o_getf 24 9 47), (24, o_const 25 1), (25, o_iadd 26), (26, o_putf 29 9 47), (29, o_vret)]
set_option maxRecDepth 20000 in
theorem t_X9_begins : ∀ q ∈ T_X9_begins, zS k_X9_begins q.1 q.2 := by
  unfold T_X9_begins
  refine List.forall_mem_cons.mpr ⟨s_aload_n (j := 0) (by decide +kernel) rfl rfl, ?_⟩
  refine List.forall_mem_cons.mpr ⟨s_getf (idx := 331) (C := RX9) (T := TX9) (N := 54) rfl inX9 (by decide) q4_158 (by decide +kernel) rfl, ?_⟩
  refine List.forall_mem_cons.mpr ⟨s_bipush (by decide +kernel) (by decide) rfl, ?_⟩
  refine List.forall_mem_cons.mpr ⟨s_icmp_ge (off := 13) (by decide +kernel) (by decide) rfl, ?_⟩
  refine List.forall_mem_cons.mpr ⟨s_aload_n (j := 0) (by decide +kernel) rfl rfl, ?_⟩
  refine List.forall_mem_cons.mpr ⟨s_getf (idx := 101) (C := RX9) (T := TX9) (N := 54) rfl inX9 (by decide) q4_157 (by decide +kernel) rfl, ?_⟩
  refine List.forall_mem_cons.mpr ⟨s_aload_n (j := 0) (by decide +kernel) rfl rfl, ?_⟩
  refine List.forall_mem_cons.mpr ⟨s_getf (idx := 331) (C := RX9) (T := TX9) (N := 54) rfl inX9 (by decide) q4_158 (by decide +kernel) rfl, ?_⟩
  refine List.forall_mem_cons.mpr ⟨s_iload_n (j := 1) (by decide +kernel) rfl rfl, ?_⟩
  refine List.forall_mem_cons.mpr ⟨s_iast (by decide +kernel) rfl, ?_⟩
  refine List.forall_mem_cons.mpr ⟨s_aload_n (j := 0) (by decide +kernel) rfl rfl, ?_⟩
  refine List.forall_mem_cons.mpr ⟨s_dup (by decide +kernel) rfl, ?_⟩
  refine List.forall_mem_cons.mpr ⟨s_getf (idx := 331) (C := RX9) (T := TX9) (N := 54) rfl inX9 (by decide) q4_158 (by decide +kernel) rfl, ?_⟩
  refine List.forall_mem_cons.mpr ⟨s_iconst (by decide +kernel) rfl, ?_⟩
  refine List.forall_mem_cons.mpr ⟨s_iadd (by decide +kernel) rfl, ?_⟩
  refine List.forall_mem_cons.mpr ⟨s_putf (idx := 331) (C := RX9) (T := TX9) (N := 54) rfl inX9 tyX9_ok nmX9 (by decide) rfl (tyX9_ok 47 (by decide)) (Or.inl ⟨rfl, kdI 9 47 (by decide)⟩) q4_158 (by decide +kernel) rfl, ?_⟩
  refine List.forall_mem_cons.mpr ⟨s_vret rfl (by decide +kernel), ?_⟩
  exact fun q hq => absurd hq List.not_mem_nil
def T_X9_goesAs : List (Nat × zO) := [(0, o_iload 1 1), (1, o_const 2 5), (2, o_icmp_ne 20 5), (5, o_aload 6 0), (6, o_const 8 60), (8, o_callv 1 9 k_X9_begins 11), (11, o_aload 12 0), (12, o_const 13 1), (13, o_iload 14 2), (14, o_callv 2 9 k_X9_goesAs 17), (17, o_const 18 2), (18, o_imul 19), (19, o_iret), (20, o_iload 21 1), (21, o_const 22 1), (22, o_icmp_ne 40 25), (25, o_aload 26 0), (26, o_const 28 20), (28, o_callv 1 9 k_X9_begins 31), (31, o_aload 32 0), (32, o_const 33 0), (33, o_iload 34 2), (34, o_callv 2 9 k_X9_goesAs 37), (37, o_const 38 3), (38, o_iadd 39), (39, o_iret), (40, o_aload 41 0), (41, o_const 42 1), (42, o_callv 1 9 k_X9_begins 45), (45, o_iload 46 2), (46, o_aload 47 0), (47, o_getf 50 9 49), (50, o_iadd 51), (51, o_iret)]
set_option maxRecDepth 20000 in
theorem t_X9_goesAs : ∀ q ∈ T_X9_goesAs, zS k_X9_goesAs q.1 q.2 := by
  unfold T_X9_goesAs
  refine List.forall_mem_cons.mpr ⟨s_iload_n (j := 1) (by decide +kernel) rfl rfl, ?_⟩
  refine List.forall_mem_cons.mpr ⟨s_iconst (by decide +kernel) rfl, ?_⟩
  refine List.forall_mem_cons.mpr ⟨s_icmp_ne (off := 18) (by decide +kernel) (by decide) rfl, ?_⟩
  refine List.forall_mem_cons.mpr ⟨s_aload_n (j := 0) (by decide +kernel) rfl rfl, ?_⟩
  refine List.forall_mem_cons.mpr ⟨s_bipush (by decide +kernel) (by decide) rfl, ?_⟩
  refine List.forall_mem_cons.mpr ⟨s_callv (idx := 334) (k' := k_X9_begins) (T := TX9) (N := 54) rfl q6_104 q6_101 q6_103 qs_66 q1_10 de_X9_begins (by decide) (by decide +kernel) rfl, ?_⟩
  refine List.forall_mem_cons.mpr ⟨s_aload_n (j := 0) (by decide +kernel) rfl rfl, ?_⟩
  refine List.forall_mem_cons.mpr ⟨s_iconst (by decide +kernel) rfl, ?_⟩
  refine List.forall_mem_cons.mpr ⟨s_iload_n (j := 2) (by decide +kernel) rfl rfl, ?_⟩
  refine List.forall_mem_cons.mpr ⟨s_callv (idx := 338) (k' := k_X9_goesAs) (T := TX9) (N := 54) rfl q6_100 q6_97 q6_99 qs_65 q1_10 de_X9_goesAs (by decide) (by decide +kernel) rfl, ?_⟩
  refine List.forall_mem_cons.mpr ⟨s_iconst (by decide +kernel) rfl, ?_⟩
  refine List.forall_mem_cons.mpr ⟨s_imul (by decide +kernel) rfl, ?_⟩
  refine List.forall_mem_cons.mpr ⟨s_iret rfl (by decide +kernel), ?_⟩
  refine List.forall_mem_cons.mpr ⟨s_iload_n (j := 1) (by decide +kernel) rfl rfl, ?_⟩
  refine List.forall_mem_cons.mpr ⟨s_iconst (by decide +kernel) rfl, ?_⟩
  refine List.forall_mem_cons.mpr ⟨s_icmp_ne (off := 18) (by decide +kernel) (by decide) rfl, ?_⟩
  refine List.forall_mem_cons.mpr ⟨s_aload_n (j := 0) (by decide +kernel) rfl rfl, ?_⟩
  refine List.forall_mem_cons.mpr ⟨s_bipush (by decide +kernel) (by decide) rfl, ?_⟩
  refine List.forall_mem_cons.mpr ⟨s_callv (idx := 334) (k' := k_X9_begins) (T := TX9) (N := 54) rfl q6_104 q6_101 q6_103 qs_66 q1_10 de_X9_begins (by decide) (by decide +kernel) rfl, ?_⟩
  refine List.forall_mem_cons.mpr ⟨s_aload_n (j := 0) (by decide +kernel) rfl rfl, ?_⟩
  refine List.forall_mem_cons.mpr ⟨s_iconst (by decide +kernel) rfl, ?_⟩
  refine List.forall_mem_cons.mpr ⟨s_iload_n (j := 2) (by decide +kernel) rfl rfl, ?_⟩
  refine List.forall_mem_cons.mpr ⟨s_callv (idx := 338) (k' := k_X9_goesAs) (T := TX9) (N := 54) rfl q6_100 q6_97 q6_99 qs_65 q1_10 de_X9_goesAs (by decide) (by decide +kernel) rfl, ?_⟩
  refine List.forall_mem_cons.mpr ⟨s_iconst (by decide +kernel) rfl, ?_⟩
  refine List.forall_mem_cons.mpr ⟨s_iadd (by decide +kernel) rfl, ?_⟩
  refine List.forall_mem_cons.mpr ⟨s_iret rfl (by decide +kernel), ?_⟩
  refine List.forall_mem_cons.mpr ⟨s_aload_n (j := 0) (by decide +kernel) rfl rfl, ?_⟩
  refine List.forall_mem_cons.mpr ⟨s_iconst (by decide +kernel) rfl, ?_⟩
  refine List.forall_mem_cons.mpr ⟨s_callv (idx := 334) (k' := k_X9_begins) (T := TX9) (N := 54) rfl q6_104 q6_101 q6_103 qs_66 q1_10 de_X9_begins (by decide) (by decide +kernel) rfl, ?_⟩
  refine List.forall_mem_cons.mpr ⟨s_iload_n (j := 2) (by decide +kernel) rfl rfl, ?_⟩
  refine List.forall_mem_cons.mpr ⟨s_aload_n (j := 0) (by decide +kernel) rfl rfl, ?_⟩
  refine List.forall_mem_cons.mpr ⟨s_getf (idx := 341) (C := RX9) (T := TX9) (N := 54) rfl inX9 (by decide) q4_160 (by decide +kernel) rfl, ?_⟩
  refine List.forall_mem_cons.mpr ⟨s_iadd (by decide +kernel) rfl, ?_⟩
  refine List.forall_mem_cons.mpr ⟨s_iret rfl (by decide +kernel), ?_⟩
  exact fun q hq => absurd hq List.not_mem_nil
def T_X9_waitsAs : List (Nat × zO) := [(0, o_iload 1 1), (1, o_const 2 3), (2, o_icmp_ne 20 5), (5, o_aload 6 0), (6, o_const 8 41), (8, o_callv 1 9 k_X9_begins 11), (11, o_aload 12 0), (12, o_const 13 2), (13, o_iload 14 2), (14, o_const 15 1), (15, o_iadd 16), (16, o_callv 2 9 k_X9_waitsAs 19), (19, o_iret), (20, o_iload 21 1), (21, o_const 22 2), (22, o_icmp_ne 39 25), (25, o_aload 26 0), (26, o_const 28 30), (28, o_callv 1 9 k_X9_begins 31), (31, o_aload 32 0), (32, o_const 33 0), (33, o_iload 34 2), (34, o_callv 2 9 k_X9_waitsAs 37), (37, o_ineg 38), (38, o_iret), (39, o_iload 40 1), (40, o_const 42 6), (42, o_icmp_ne 70 45), (45, o_aload 46 0), (46, o_const 48 70), (48, o_callv 1 9 k_X9_begins 51), (51, o_aload 52 0), (52, o_const 53 0), (53, o_iload 54 2), (54, o_callv 2 9 k_X9_waitsAs 57), (57, o_istore 58 3), (58, o_iload 59 3), (59, o_aload 60 0), (60, o_aload 61 0), (61, o_getf 64 9 48), (64, o_const 65 2), (65, o_callv 2 9 k_X9_wetsAs 68), (68, o_isub 69), (69, o_iret), (70, o_aload 71 0), (71, o_const 73 10), (73, o_callv 1 9 k_X9_begins 76), (76, o_aload 77 0), (77, o_aload 78 0), (78, o_getf 81 9 48), (81, o_iload 82 2), (82, o_callv 2 9 k_X9_goesAs 85), (85, o_const 86 2), (86, o_imul 87), (87, o_iret)]
set_option maxRecDepth 20000 in
theorem t_X9_waitsAs : ∀ q ∈ T_X9_waitsAs, zS k_X9_waitsAs q.1 q.2 := by
  unfold T_X9_waitsAs
  refine List.forall_mem_cons.mpr ⟨s_iload_n (j := 1) (by decide +kernel) rfl rfl, ?_⟩
  refine List.forall_mem_cons.mpr ⟨s_iconst (by decide +kernel) rfl, ?_⟩
  refine List.forall_mem_cons.mpr ⟨s_icmp_ne (off := 18) (by decide +kernel) (by decide) rfl, ?_⟩
  refine List.forall_mem_cons.mpr ⟨s_aload_n (j := 0) (by decide +kernel) rfl rfl, ?_⟩
  refine List.forall_mem_cons.mpr ⟨s_bipush (by decide +kernel) (by decide) rfl, ?_⟩
  refine List.forall_mem_cons.mpr ⟨s_callv (idx := 334) (k' := k_X9_begins) (T := TX9) (N := 54) rfl q6_104 q6_101 q6_103 qs_66 q1_10 de_X9_begins (by decide) (by decide +kernel) rfl, ?_⟩
  refine List.forall_mem_cons.mpr ⟨s_aload_n (j := 0) (by decide +kernel) rfl rfl, ?_⟩
  refine List.forall_mem_cons.mpr ⟨s_iconst (by decide +kernel) rfl, ?_⟩
  refine List.forall_mem_cons.mpr ⟨s_iload_n (j := 2) (by decide +kernel) rfl rfl, ?_⟩
  refine List.forall_mem_cons.mpr ⟨s_iconst (by decide +kernel) rfl, ?_⟩
  refine List.forall_mem_cons.mpr ⟨s_iadd (by decide +kernel) rfl, ?_⟩
  refine List.forall_mem_cons.mpr ⟨s_callv (idx := 344) (k' := k_X9_waitsAs) (T := TX9) (N := 54) rfl q6_108 q6_105 q6_107 qs_67 q1_10 de_X9_waitsAs (by decide) (by decide +kernel) rfl, ?_⟩
  refine List.forall_mem_cons.mpr ⟨s_iret rfl (by decide +kernel), ?_⟩
  refine List.forall_mem_cons.mpr ⟨s_iload_n (j := 1) (by decide +kernel) rfl rfl, ?_⟩
  refine List.forall_mem_cons.mpr ⟨s_iconst (by decide +kernel) rfl, ?_⟩
  refine List.forall_mem_cons.mpr ⟨s_icmp_ne (off := 17) (by decide +kernel) (by decide) rfl, ?_⟩
  refine List.forall_mem_cons.mpr ⟨s_aload_n (j := 0) (by decide +kernel) rfl rfl, ?_⟩
  refine List.forall_mem_cons.mpr ⟨s_bipush (by decide +kernel) (by decide) rfl, ?_⟩
  refine List.forall_mem_cons.mpr ⟨s_callv (idx := 334) (k' := k_X9_begins) (T := TX9) (N := 54) rfl q6_104 q6_101 q6_103 qs_66 q1_10 de_X9_begins (by decide) (by decide +kernel) rfl, ?_⟩
  refine List.forall_mem_cons.mpr ⟨s_aload_n (j := 0) (by decide +kernel) rfl rfl, ?_⟩
  refine List.forall_mem_cons.mpr ⟨s_iconst (by decide +kernel) rfl, ?_⟩
  refine List.forall_mem_cons.mpr ⟨s_iload_n (j := 2) (by decide +kernel) rfl rfl, ?_⟩
  refine List.forall_mem_cons.mpr ⟨s_callv (idx := 344) (k' := k_X9_waitsAs) (T := TX9) (N := 54) rfl q6_108 q6_105 q6_107 qs_67 q1_10 de_X9_waitsAs (by decide) (by decide +kernel) rfl, ?_⟩
  refine List.forall_mem_cons.mpr ⟨s_ineg (by decide +kernel) rfl, ?_⟩
  refine List.forall_mem_cons.mpr ⟨s_iret rfl (by decide +kernel), ?_⟩
  refine List.forall_mem_cons.mpr ⟨s_iload_n (j := 1) (by decide +kernel) rfl rfl, ?_⟩
  refine List.forall_mem_cons.mpr ⟨s_bipush (by decide +kernel) (by decide) rfl, ?_⟩
  refine List.forall_mem_cons.mpr ⟨s_icmp_ne (off := 28) (by decide +kernel) (by decide) rfl, ?_⟩
  refine List.forall_mem_cons.mpr ⟨s_aload_n (j := 0) (by decide +kernel) rfl rfl, ?_⟩
  refine List.forall_mem_cons.mpr ⟨s_bipush (by decide +kernel) (by decide) rfl, ?_⟩
  refine List.forall_mem_cons.mpr ⟨s_callv (idx := 334) (k' := k_X9_begins) (T := TX9) (N := 54) rfl q6_104 q6_101 q6_103 qs_66 q1_10 de_X9_begins (by decide) (by decide +kernel) rfl, ?_⟩
  refine List.forall_mem_cons.mpr ⟨s_aload_n (j := 0) (by decide +kernel) rfl rfl, ?_⟩
  refine List.forall_mem_cons.mpr ⟨s_iconst (by decide +kernel) rfl, ?_⟩
  refine List.forall_mem_cons.mpr ⟨s_iload_n (j := 2) (by decide +kernel) rfl rfl, ?_⟩
  refine List.forall_mem_cons.mpr ⟨s_callv (idx := 344) (k' := k_X9_waitsAs) (T := TX9) (N := 54) rfl q6_108 q6_105 q6_107 qs_67 q1_10 de_X9_waitsAs (by decide) (by decide +kernel) rfl, ?_⟩
  refine List.forall_mem_cons.mpr ⟨s_istore_n (j := 3) (by decide +kernel) rfl (by decide) rfl, ?_⟩
  refine List.forall_mem_cons.mpr ⟨s_iload_n (j := 3) (by decide +kernel) rfl rfl, ?_⟩
  refine List.forall_mem_cons.mpr ⟨s_aload_n (j := 0) (by decide +kernel) rfl rfl, ?_⟩
  refine List.forall_mem_cons.mpr ⟨s_aload_n (j := 0) (by decide +kernel) rfl rfl, ?_⟩
  refine List.forall_mem_cons.mpr ⟨s_getf (idx := 347) (C := RX9) (T := TX9) (N := 54) rfl inX9 (by decide) q4_159 (by decide +kernel) rfl, ?_⟩
  refine List.forall_mem_cons.mpr ⟨s_iconst (by decide +kernel) rfl, ?_⟩
  refine List.forall_mem_cons.mpr ⟨s_callv (idx := 350) (k' := k_X9_wetsAs) (T := TX9) (N := 54) rfl q6_112 q6_109 q6_111 qs_68 q1_10 de_X9_wetsAs (by decide) (by decide +kernel) rfl, ?_⟩
  refine List.forall_mem_cons.mpr ⟨s_isub (by decide +kernel) rfl, ?_⟩
  refine List.forall_mem_cons.mpr ⟨s_iret rfl (by decide +kernel), ?_⟩
  refine List.forall_mem_cons.mpr ⟨s_aload_n (j := 0) (by decide +kernel) rfl rfl, ?_⟩
  refine List.forall_mem_cons.mpr ⟨s_bipush (by decide +kernel) (by decide) rfl, ?_⟩
  refine List.forall_mem_cons.mpr ⟨s_callv (idx := 334) (k' := k_X9_begins) (T := TX9) (N := 54) rfl q6_104 q6_101 q6_103 qs_66 q1_10 de_X9_begins (by decide) (by decide +kernel) rfl, ?_⟩
  refine List.forall_mem_cons.mpr ⟨s_aload_n (j := 0) (by decide +kernel) rfl rfl, ?_⟩
  refine List.forall_mem_cons.mpr ⟨s_aload_n (j := 0) (by decide +kernel) rfl rfl, ?_⟩
  refine List.forall_mem_cons.mpr ⟨s_getf (idx := 347) (C := RX9) (T := TX9) (N := 54) rfl inX9 (by decide) q4_159 (by decide +kernel) rfl, ?_⟩
  refine List.forall_mem_cons.mpr ⟨s_iload_n (j := 2) (by decide +kernel) rfl rfl, ?_⟩
  refine List.forall_mem_cons.mpr ⟨s_callv (idx := 338) (k' := k_X9_goesAs) (T := TX9) (N := 54) rfl q6_100 q6_97 q6_99 qs_65 q1_10 de_X9_goesAs (by decide) (by decide +kernel) rfl, ?_⟩
  refine List.forall_mem_cons.mpr ⟨s_iconst (by decide +kernel) rfl, ?_⟩
  refine List.forall_mem_cons.mpr ⟨s_imul (by decide +kernel) rfl, ?_⟩
  refine List.forall_mem_cons.mpr ⟨s_iret rfl (by decide +kernel), ?_⟩
  exact fun q hq => absurd hq List.not_mem_nil
def T_X9_wetsAs : List (Nat × zO) := [(0, o_iload 1 1), (1, o_const 2 3), (2, o_icmp_ne 20 5), (5, o_aload 6 0), (6, o_const 8 40), (8, o_callv 1 9 k_X9_begins 11), (11, o_aload 12 0), (12, o_const 13 2), (13, o_iload 14 2), (14, o_callv 2 9 k_X9_wetsAs 17), (17, o_const 18 3), (18, o_imul 19), (19, o_iret), (20, o_iload 21 1), (21, o_const 22 5), (22, o_icmp_ne 50 25), (25, o_aload 26 0), (26, o_const 28 61), (28, o_callv 1 9 k_X9_begins 31), (31, o_aload 32 0), (32, o_const 33 1), (33, o_iload 34 2), (34, o_callv 2 9 k_X9_wetsAs 37), (37, o_istore 38 3), (38, o_iload 39 3), (39, o_aload 40 0), (40, o_aload 41 0), (41, o_getf 44 9 48), (44, o_const 45 2), (45, o_callv 2 9 k_X9_goesAs 48), (48, o_iadd 49), (49, o_iret), (50, o_aload 51 0), (51, o_const 53 11), (53, o_callv 1 9 k_X9_begins 56), (56, o_iload 57 2), (57, o_aload 58 0), (58, o_getf 61 9 49), (61, o_ixor 62), (62, o_iret)]
set_option maxRecDepth 20000 in
theorem t_X9_wetsAs : ∀ q ∈ T_X9_wetsAs, zS k_X9_wetsAs q.1 q.2 := by
  unfold T_X9_wetsAs
  refine List.forall_mem_cons.mpr ⟨s_iload_n (j := 1) (by decide +kernel) rfl rfl, ?_⟩
  refine List.forall_mem_cons.mpr ⟨s_iconst (by decide +kernel) rfl, ?_⟩
  refine List.forall_mem_cons.mpr ⟨s_icmp_ne (off := 18) (by decide +kernel) (by decide) rfl, ?_⟩
  refine List.forall_mem_cons.mpr ⟨s_aload_n (j := 0) (by decide +kernel) rfl rfl, ?_⟩
  refine List.forall_mem_cons.mpr ⟨s_bipush (by decide +kernel) (by decide) rfl, ?_⟩
  refine List.forall_mem_cons.mpr ⟨s_callv (idx := 334) (k' := k_X9_begins) (T := TX9) (N := 54) rfl q6_104 q6_101 q6_103 qs_66 q1_10 de_X9_begins (by decide) (by decide +kernel) rfl, ?_⟩
  refine List.forall_mem_cons.mpr ⟨s_aload_n (j := 0) (by decide +kernel) rfl rfl, ?_⟩
  refine List.forall_mem_cons.mpr ⟨s_iconst (by decide +kernel) rfl, ?_⟩
  refine List.forall_mem_cons.mpr ⟨s_iload_n (j := 2) (by decide +kernel) rfl rfl, ?_⟩
  refine List.forall_mem_cons.mpr ⟨s_callv (idx := 350) (k' := k_X9_wetsAs) (T := TX9) (N := 54) rfl q6_112 q6_109 q6_111 qs_68 q1_10 de_X9_wetsAs (by decide) (by decide +kernel) rfl, ?_⟩
  refine List.forall_mem_cons.mpr ⟨s_iconst (by decide +kernel) rfl, ?_⟩
  refine List.forall_mem_cons.mpr ⟨s_imul (by decide +kernel) rfl, ?_⟩
  refine List.forall_mem_cons.mpr ⟨s_iret rfl (by decide +kernel), ?_⟩
  refine List.forall_mem_cons.mpr ⟨s_iload_n (j := 1) (by decide +kernel) rfl rfl, ?_⟩
  refine List.forall_mem_cons.mpr ⟨s_iconst (by decide +kernel) rfl, ?_⟩
  refine List.forall_mem_cons.mpr ⟨s_icmp_ne (off := 28) (by decide +kernel) (by decide) rfl, ?_⟩
  refine List.forall_mem_cons.mpr ⟨s_aload_n (j := 0) (by decide +kernel) rfl rfl, ?_⟩
  refine List.forall_mem_cons.mpr ⟨s_bipush (by decide +kernel) (by decide) rfl, ?_⟩
  refine List.forall_mem_cons.mpr ⟨s_callv (idx := 334) (k' := k_X9_begins) (T := TX9) (N := 54) rfl q6_104 q6_101 q6_103 qs_66 q1_10 de_X9_begins (by decide) (by decide +kernel) rfl, ?_⟩
  refine List.forall_mem_cons.mpr ⟨s_aload_n (j := 0) (by decide +kernel) rfl rfl, ?_⟩
  refine List.forall_mem_cons.mpr ⟨s_iconst (by decide +kernel) rfl, ?_⟩
  refine List.forall_mem_cons.mpr ⟨s_iload_n (j := 2) (by decide +kernel) rfl rfl, ?_⟩
  refine List.forall_mem_cons.mpr ⟨s_callv (idx := 350) (k' := k_X9_wetsAs) (T := TX9) (N := 54) rfl q6_112 q6_109 q6_111 qs_68 q1_10 de_X9_wetsAs (by decide) (by decide +kernel) rfl, ?_⟩
  refine List.forall_mem_cons.mpr ⟨s_istore_n (j := 3) (by decide +kernel) rfl (by decide) rfl, ?_⟩
  refine List.forall_mem_cons.mpr ⟨s_iload_n (j := 3) (by decide +kernel) rfl rfl, ?_⟩
  refine List.forall_mem_cons.mpr ⟨s_aload_n (j := 0) (by decide +kernel) rfl rfl, ?_⟩
  refine List.forall_mem_cons.mpr ⟨s_aload_n (j := 0) (by decide +kernel) rfl rfl, ?_⟩
  refine List.forall_mem_cons.mpr ⟨s_getf (idx := 347) (C := RX9) (T := TX9) (N := 54) rfl inX9 (by decide) q4_159 (by decide +kernel) rfl, ?_⟩
  refine List.forall_mem_cons.mpr ⟨s_iconst (by decide +kernel) rfl, ?_⟩
  refine List.forall_mem_cons.mpr ⟨s_callv (idx := 338) (k' := k_X9_goesAs) (T := TX9) (N := 54) rfl q6_100 q6_97 q6_99 qs_65 q1_10 de_X9_goesAs (by decide) (by decide +kernel) rfl, ?_⟩
  refine List.forall_mem_cons.mpr ⟨s_iadd (by decide +kernel) rfl, ?_⟩
  refine List.forall_mem_cons.mpr ⟨s_iret rfl (by decide +kernel), ?_⟩
  refine List.forall_mem_cons.mpr ⟨s_aload_n (j := 0) (by decide +kernel) rfl rfl, ?_⟩
  refine List.forall_mem_cons.mpr ⟨s_bipush (by decide +kernel) (by decide) rfl, ?_⟩
  refine List.forall_mem_cons.mpr ⟨s_callv (idx := 334) (k' := k_X9_begins) (T := TX9) (N := 54) rfl q6_104 q6_101 q6_103 qs_66 q1_10 de_X9_begins (by decide) (by decide +kernel) rfl, ?_⟩
  refine List.forall_mem_cons.mpr ⟨s_iload_n (j := 2) (by decide +kernel) rfl rfl, ?_⟩
  refine List.forall_mem_cons.mpr ⟨s_aload_n (j := 0) (by decide +kernel) rfl rfl, ?_⟩
  refine List.forall_mem_cons.mpr ⟨s_getf (idx := 341) (C := RX9) (T := TX9) (N := 54) rfl inX9 (by decide) q4_160 (by decide +kernel) rfl, ?_⟩
  refine List.forall_mem_cons.mpr ⟨s_ixor (by decide +kernel) rfl, ?_⟩
  refine List.forall_mem_cons.mpr ⟨s_iret rfl (by decide +kernel), ?_⟩
  exact fun q hq => absurd hq List.not_mem_nil
def T_X9_tellsAs : List (Nat × zO) := [(0, o_iload 1 1), (1, o_const 2 4), (2, o_icmp_ne 20 5), (5, o_aload 6 0), (6, o_const 8 50), (8, o_callv 1 9 k_X9_begins 11), (11, o_aload 12 0), (12, o_const 13 0), (13, o_iload 14 2), (14, o_callv 2 9 k_X9_tellsAs 17), (17, o_const 18 5), (18, o_ixor 19), (19, o_iret), (20, o_aload 21 0), (21, o_const 22 2), (22, o_callv 1 9 k_X9_begins 25), (25, o_aload 26 0), (26, o_aload 27 0), (27, o_getf 30 9 48), (30, o_iload 31 2), (31, o_callv 2 9 k_X9_waitsAs 34), (34, o_istore 35 3), (35, o_iload 36 3), (36, o_aload 37 0), (37, o_aload 38 0), (38, o_getf 41 9 48), (41, o_const 42 1), (42, o_callv 2 9 k_X9_wetsAs 45), (45, o_isub 46), (46, o_iret)]
set_option maxRecDepth 20000 in
theorem t_X9_tellsAs : ∀ q ∈ T_X9_tellsAs, zS k_X9_tellsAs q.1 q.2 := by
  unfold T_X9_tellsAs
  refine List.forall_mem_cons.mpr ⟨s_iload_n (j := 1) (by decide +kernel) rfl rfl, ?_⟩
  refine List.forall_mem_cons.mpr ⟨s_iconst (by decide +kernel) rfl, ?_⟩
  refine List.forall_mem_cons.mpr ⟨s_icmp_ne (off := 18) (by decide +kernel) (by decide) rfl, ?_⟩
  refine List.forall_mem_cons.mpr ⟨s_aload_n (j := 0) (by decide +kernel) rfl rfl, ?_⟩
  refine List.forall_mem_cons.mpr ⟨s_bipush (by decide +kernel) (by decide) rfl, ?_⟩
  refine List.forall_mem_cons.mpr ⟨s_callv (idx := 334) (k' := k_X9_begins) (T := TX9) (N := 54) rfl q6_104 q6_101 q6_103 qs_66 q1_10 de_X9_begins (by decide) (by decide +kernel) rfl, ?_⟩
  refine List.forall_mem_cons.mpr ⟨s_aload_n (j := 0) (by decide +kernel) rfl rfl, ?_⟩
  refine List.forall_mem_cons.mpr ⟨s_iconst (by decide +kernel) rfl, ?_⟩
  refine List.forall_mem_cons.mpr ⟨s_iload_n (j := 2) (by decide +kernel) rfl rfl, ?_⟩
  refine List.forall_mem_cons.mpr ⟨s_callv (idx := 353) (k' := k_X9_tellsAs) (T := TX9) (N := 54) rfl q6_116 q6_113 q6_115 qs_69 q1_10 de_X9_tellsAs (by decide) (by decide +kernel) rfl, ?_⟩
  refine List.forall_mem_cons.mpr ⟨s_iconst (by decide +kernel) rfl, ?_⟩
  refine List.forall_mem_cons.mpr ⟨s_ixor (by decide +kernel) rfl, ?_⟩
  refine List.forall_mem_cons.mpr ⟨s_iret rfl (by decide +kernel), ?_⟩
  refine List.forall_mem_cons.mpr ⟨s_aload_n (j := 0) (by decide +kernel) rfl rfl, ?_⟩
  refine List.forall_mem_cons.mpr ⟨s_iconst (by decide +kernel) rfl, ?_⟩
  refine List.forall_mem_cons.mpr ⟨s_callv (idx := 334) (k' := k_X9_begins) (T := TX9) (N := 54) rfl q6_104 q6_101 q6_103 qs_66 q1_10 de_X9_begins (by decide) (by decide +kernel) rfl, ?_⟩
  refine List.forall_mem_cons.mpr ⟨s_aload_n (j := 0) (by decide +kernel) rfl rfl, ?_⟩
  refine List.forall_mem_cons.mpr ⟨s_aload_n (j := 0) (by decide +kernel) rfl rfl, ?_⟩
  refine List.forall_mem_cons.mpr ⟨s_getf (idx := 347) (C := RX9) (T := TX9) (N := 54) rfl inX9 (by decide) q4_159 (by decide +kernel) rfl, ?_⟩
  refine List.forall_mem_cons.mpr ⟨s_iload_n (j := 2) (by decide +kernel) rfl rfl, ?_⟩
  refine List.forall_mem_cons.mpr ⟨s_callv (idx := 344) (k' := k_X9_waitsAs) (T := TX9) (N := 54) rfl q6_108 q6_105 q6_107 qs_67 q1_10 de_X9_waitsAs (by decide) (by decide +kernel) rfl, ?_⟩
  refine List.forall_mem_cons.mpr ⟨s_istore_n (j := 3) (by decide +kernel) rfl (by decide) rfl, ?_⟩
  refine List.forall_mem_cons.mpr ⟨s_iload_n (j := 3) (by decide +kernel) rfl rfl, ?_⟩
  refine List.forall_mem_cons.mpr ⟨s_aload_n (j := 0) (by decide +kernel) rfl rfl, ?_⟩
  refine List.forall_mem_cons.mpr ⟨s_aload_n (j := 0) (by decide +kernel) rfl rfl, ?_⟩
  refine List.forall_mem_cons.mpr ⟨s_getf (idx := 347) (C := RX9) (T := TX9) (N := 54) rfl inX9 (by decide) q4_159 (by decide +kernel) rfl, ?_⟩
  refine List.forall_mem_cons.mpr ⟨s_iconst (by decide +kernel) rfl, ?_⟩
  refine List.forall_mem_cons.mpr ⟨s_callv (idx := 350) (k' := k_X9_wetsAs) (T := TX9) (N := 54) rfl q6_112 q6_109 q6_111 qs_68 q1_10 de_X9_wetsAs (by decide) (by decide +kernel) rfl, ?_⟩
  refine List.forall_mem_cons.mpr ⟨s_isub (by decide +kernel) rfl, ?_⟩
  refine List.forall_mem_cons.mpr ⟨s_iret rfl (by decide +kernel), ?_⟩
  exact fun q hq => absurd hq List.not_mem_nil
def T_X9_act : List (Nat × zO) := [(0, o_aload 1 0), (1, o_const 2 0), (2, o_putf 5 9 47), (5, o_aload 6 0), (6, o_iload 7 1), (7, o_callv 1 9 k_X9_isBody 10), (10, o_if_ne 15 13), (13, o_const 14 0), (14, o_iret), (15, o_aload 16 0), (16, o_aload 17 0), (17, o_getf 20 9 45), (20, o_iload 21 1), (21, o_iald 22), (22, o_putf 25 9 48), (25, o_aload 26 0), (26, o_iload 27 1), (27, o_putf 30 9 49), (30, o_iload 31 2), (31, o_tsw 0 3 [60, 70, 80, 90] 100), (60, o_aload 61 0), (61, o_aload 62 0), (62, o_getf 65 9 48), (65, o_iload 66 3), (66, o_callv 2 9 k_X9_goesAs 69), (69, o_iret), (70, o_aload 71 0), (71, o_aload 72 0), (72, o_getf 75 9 48), (75, o_iload 76 3), (76, o_callv 2 9 k_X9_waitsAs 79), (79, o_iret), (80, o_aload 81 0), (81, o_aload 82 0), (82, o_getf 85 9 48), (85, o_iload 86 3), (86, o_callv 2 9 k_X9_wetsAs 89), (89, o_iret), (90, o_aload 91 0), (91, o_aload 92 0), (92, o_getf 95 9 48), (95, o_iload 96 3), (96, o_callv 2 9 k_X9_tellsAs 99), (99, o_iret), (100, o_const 101 0), (101, o_iret)]
set_option maxRecDepth 20000 in
theorem t_X9_act : ∀ q ∈ T_X9_act, zS k_X9_act q.1 q.2 := by
  unfold T_X9_act
  refine List.forall_mem_cons.mpr ⟨s_aload_n (j := 0) (by decide +kernel) rfl rfl, ?_⟩
  refine List.forall_mem_cons.mpr ⟨s_iconst (by decide +kernel) rfl, ?_⟩
  refine List.forall_mem_cons.mpr ⟨s_putf (idx := 331) (C := RX9) (T := TX9) (N := 54) rfl inX9 tyX9_ok nmX9 (by decide) rfl (tyX9_ok 47 (by decide)) (Or.inl ⟨rfl, kdI 9 47 (by decide)⟩) q4_158 (by decide +kernel) rfl, ?_⟩
  refine List.forall_mem_cons.mpr ⟨s_aload_n (j := 0) (by decide +kernel) rfl rfl, ?_⟩
  refine List.forall_mem_cons.mpr ⟨s_iload_n (j := 1) (by decide +kernel) rfl rfl, ?_⟩
  refine List.forall_mem_cons.mpr ⟨s_callv (idx := 356) (k' := k_X9_isBody) (T := TX9) (N := 54) rfl q6_96 q6_93 q6_95 qs_64 q1_10 de_X9_isBody (by decide) (by decide +kernel) rfl, ?_⟩
  refine List.forall_mem_cons.mpr ⟨s_if_ne (off := 5) (by decide +kernel) (by decide) rfl, ?_⟩
  refine List.forall_mem_cons.mpr ⟨s_iconst (by decide +kernel) rfl, ?_⟩
  refine List.forall_mem_cons.mpr ⟨s_iret rfl (by decide +kernel), ?_⟩
  refine List.forall_mem_cons.mpr ⟨s_aload_n (j := 0) (by decide +kernel) rfl rfl, ?_⟩
  refine List.forall_mem_cons.mpr ⟨s_aload_n (j := 0) (by decide +kernel) rfl rfl, ?_⟩
  refine List.forall_mem_cons.mpr ⟨s_getf (idx := 98) (C := RX9) (T := TX9) (N := 54) rfl inX9 (by decide) q4_156 (by decide +kernel) rfl, ?_⟩
  refine List.forall_mem_cons.mpr ⟨s_iload_n (j := 1) (by decide +kernel) rfl rfl, ?_⟩
  refine List.forall_mem_cons.mpr ⟨s_iald (by decide +kernel) rfl, ?_⟩
  refine List.forall_mem_cons.mpr ⟨s_putf (idx := 347) (C := RX9) (T := TX9) (N := 54) rfl inX9 tyX9_ok nmX9 (by decide) rfl (tyX9_ok 48 (by decide)) (Or.inl ⟨rfl, kdI 9 48 (by decide)⟩) q4_159 (by decide +kernel) rfl, ?_⟩
  refine List.forall_mem_cons.mpr ⟨s_aload_n (j := 0) (by decide +kernel) rfl rfl, ?_⟩
  refine List.forall_mem_cons.mpr ⟨s_iload_n (j := 1) (by decide +kernel) rfl rfl, ?_⟩
  refine List.forall_mem_cons.mpr ⟨s_putf (idx := 341) (C := RX9) (T := TX9) (N := 54) rfl inX9 tyX9_ok nmX9 (by decide) rfl (tyX9_ok 49 (by decide)) (Or.inl ⟨rfl, kdI 9 49 (by decide)⟩) q4_160 (by decide +kernel) rfl, ?_⟩
  refine List.forall_mem_cons.mpr ⟨s_iload_n (j := 2) (by decide +kernel) rfl rfl, ?_⟩
  refine List.forall_mem_cons.mpr ⟨s_tsw (dfo := 69) (offs := #[29, 39, 49, 59]) (len := 29) (by decide +kernel) (by decide) (by decide) (by decide), ?_⟩
  refine List.forall_mem_cons.mpr ⟨s_aload_n (j := 0) (by decide +kernel) rfl rfl, ?_⟩
  refine List.forall_mem_cons.mpr ⟨s_aload_n (j := 0) (by decide +kernel) rfl rfl, ?_⟩
  refine List.forall_mem_cons.mpr ⟨s_getf (idx := 347) (C := RX9) (T := TX9) (N := 54) rfl inX9 (by decide) q4_159 (by decide +kernel) rfl, ?_⟩
  refine List.forall_mem_cons.mpr ⟨s_iload_n (j := 3) (by decide +kernel) rfl rfl, ?_⟩
  refine List.forall_mem_cons.mpr ⟨s_callv (idx := 338) (k' := k_X9_goesAs) (T := TX9) (N := 54) rfl q6_100 q6_97 q6_99 qs_65 q1_10 de_X9_goesAs (by decide) (by decide +kernel) rfl, ?_⟩
  refine List.forall_mem_cons.mpr ⟨s_iret rfl (by decide +kernel), ?_⟩
  refine List.forall_mem_cons.mpr ⟨s_aload_n (j := 0) (by decide +kernel) rfl rfl, ?_⟩
  refine List.forall_mem_cons.mpr ⟨s_aload_n (j := 0) (by decide +kernel) rfl rfl, ?_⟩
  refine List.forall_mem_cons.mpr ⟨s_getf (idx := 347) (C := RX9) (T := TX9) (N := 54) rfl inX9 (by decide) q4_159 (by decide +kernel) rfl, ?_⟩
  refine List.forall_mem_cons.mpr ⟨s_iload_n (j := 3) (by decide +kernel) rfl rfl, ?_⟩
  refine List.forall_mem_cons.mpr ⟨s_callv (idx := 344) (k' := k_X9_waitsAs) (T := TX9) (N := 54) rfl q6_108 q6_105 q6_107 qs_67 q1_10 de_X9_waitsAs (by decide) (by decide +kernel) rfl, ?_⟩
  refine List.forall_mem_cons.mpr ⟨s_iret rfl (by decide +kernel), ?_⟩
  refine List.forall_mem_cons.mpr ⟨s_aload_n (j := 0) (by decide +kernel) rfl rfl, ?_⟩
  refine List.forall_mem_cons.mpr ⟨s_aload_n (j := 0) (by decide +kernel) rfl rfl, ?_⟩
  refine List.forall_mem_cons.mpr ⟨s_getf (idx := 347) (C := RX9) (T := TX9) (N := 54) rfl inX9 (by decide) q4_159 (by decide +kernel) rfl, ?_⟩
  refine List.forall_mem_cons.mpr ⟨s_iload_n (j := 3) (by decide +kernel) rfl rfl, ?_⟩
  refine List.forall_mem_cons.mpr ⟨s_callv (idx := 350) (k' := k_X9_wetsAs) (T := TX9) (N := 54) rfl q6_112 q6_109 q6_111 qs_68 q1_10 de_X9_wetsAs (by decide) (by decide +kernel) rfl, ?_⟩
  refine List.forall_mem_cons.mpr ⟨s_iret rfl (by decide +kernel), ?_⟩
  refine List.forall_mem_cons.mpr ⟨s_aload_n (j := 0) (by decide +kernel) rfl rfl, ?_⟩
  refine List.forall_mem_cons.mpr ⟨s_aload_n (j := 0) (by decide +kernel) rfl rfl, ?_⟩
  refine List.forall_mem_cons.mpr ⟨s_getf (idx := 347) (C := RX9) (T := TX9) (N := 54) rfl inX9 (by decide) q4_159 (by decide +kernel) rfl, ?_⟩
  refine List.forall_mem_cons.mpr ⟨s_iload_n (j := 3) (by decide +kernel) rfl rfl, ?_⟩
  refine List.forall_mem_cons.mpr ⟨s_callv (idx := 353) (k' := k_X9_tellsAs) (T := TX9) (N := 54) rfl q6_116 q6_113 q6_115 qs_69 q1_10 de_X9_tellsAs (by decide) (by decide +kernel) rfl, ?_⟩
  refine List.forall_mem_cons.mpr ⟨s_iret rfl (by decide +kernel), ?_⟩
  refine List.forall_mem_cons.mpr ⟨s_iconst (by decide +kernel) rfl, ?_⟩
  refine List.forall_mem_cons.mpr ⟨s_iret rfl (by decide +kernel), ?_⟩
  exact fun q hq => absurd hq List.not_mem_nil
def T_X9_trace : List (Nat × zO) := [(0, o_iload 1 1), (1, o_if_lt 27 4), (4, o_iload 5 1), (5, o_aload 6 0), (6, o_getf 9 9 47), (9, o_icmp_ge 27 12), (12, o_iload 13 1), (13, o_const 15 24), (15, o_icmp_ge 27 18), (18, o_aload 19 0), (19, o_getf 22 9 46), (22, o_iload 23 1), (23, o_iald 24), (24, o_goto 28), (27, o_const 28 (-1)), (28, o_iret)]
set_option maxRecDepth 20000 in
theorem t_X9_trace : ∀ q ∈ T_X9_trace, zS k_X9_trace q.1 q.2 := by
  unfold T_X9_trace
  refine List.forall_mem_cons.mpr ⟨s_iload_n (j := 1) (by decide +kernel) rfl rfl, ?_⟩
  refine List.forall_mem_cons.mpr ⟨s_if_lt (off := 26) (by decide +kernel) (by decide) rfl, ?_⟩
  refine List.forall_mem_cons.mpr ⟨s_iload_n (j := 1) (by decide +kernel) rfl rfl, ?_⟩
  refine List.forall_mem_cons.mpr ⟨s_aload_n (j := 0) (by decide +kernel) rfl rfl, ?_⟩
  refine List.forall_mem_cons.mpr ⟨s_getf (idx := 331) (C := RX9) (T := TX9) (N := 54) rfl inX9 (by decide) q4_158 (by decide +kernel) rfl, ?_⟩
  refine List.forall_mem_cons.mpr ⟨s_icmp_ge (off := 18) (by decide +kernel) (by decide) rfl, ?_⟩
  refine List.forall_mem_cons.mpr ⟨s_iload_n (j := 1) (by decide +kernel) rfl rfl, ?_⟩
  refine List.forall_mem_cons.mpr ⟨s_bipush (by decide +kernel) (by decide) rfl, ?_⟩
  refine List.forall_mem_cons.mpr ⟨s_icmp_ge (off := 12) (by decide +kernel) (by decide) rfl, ?_⟩
  refine List.forall_mem_cons.mpr ⟨s_aload_n (j := 0) (by decide +kernel) rfl rfl, ?_⟩
  refine List.forall_mem_cons.mpr ⟨s_getf (idx := 101) (C := RX9) (T := TX9) (N := 54) rfl inX9 (by decide) q4_157 (by decide +kernel) rfl, ?_⟩
  refine List.forall_mem_cons.mpr ⟨s_iload_n (j := 1) (by decide +kernel) rfl rfl, ?_⟩
  refine List.forall_mem_cons.mpr ⟨s_iald (by decide +kernel) rfl, ?_⟩
  refine List.forall_mem_cons.mpr ⟨s_goto (off := 4) (by decide +kernel) (by decide), ?_⟩
  refine List.forall_mem_cons.mpr ⟨s_iconst (by decide +kernel) rfl, ?_⟩
  refine List.forall_mem_cons.mpr ⟨s_iret rfl (by decide +kernel), ?_⟩
  exact fun q hq => absurd hq List.not_mem_nil
def T_X9_isShelf : List (Nat × zO) := [(0, o_iload 1 0), (1, o_i2l 2), (2, o_lconst 3 0), (3, o_lconst 6 (5)), (6, o_calls 3 k_X9_within 9), (9, o_zret)]
set_option maxRecDepth 20000 in
theorem t_X9_isShelf : ∀ q ∈ T_X9_isShelf, zS k_X9_isShelf q.1 q.2 := by
  unfold T_X9_isShelf
  refine List.forall_mem_cons.mpr ⟨s_iload_n (j := 0) (by decide +kernel) rfl rfl, ?_⟩
  refine List.forall_mem_cons.mpr ⟨s_i2l (by decide +kernel) rfl, ?_⟩
  refine List.forall_mem_cons.mpr ⟨s_lconst (z := 0) (by decide +kernel) (by decide) rfl, ?_⟩
  refine List.forall_mem_cons.mpr ⟨s_ldc2 (idx := 359) (y := (5)) (by decide +kernel) q6_45 rfl, ?_⟩
  refine List.forall_mem_cons.mpr ⟨s_calls (idx := 5) (k' := k_X9_within) q5_50 q5_48 q5_49 q1_10 de_X9_within (by decide) (by decide +kernel) rfl, ?_⟩
  refine List.forall_mem_cons.mpr ⟨s_zret rfl (by decide +kernel), ?_⟩
  exact fun q hq => absurd hq List.not_mem_nil
def T_X9_keep : List (Nat × zO) := [(0, o_iload 1 1), (1, o_calls 1 k_X9_isShelf 4), (4, o_if_eq 20 7), (7, o_iload 8 2), (8, o_const 9 (-1)), (9, o_icmp_eq 22 12), (12, o_aload 13 0), (13, o_iload 14 2), (14, o_callv 1 9 k_X9_isBody 17), (17, o_if_ne 22 20), (20, o_const 21 (-1)), (21, o_iret), (22, o_aload 23 0), (23, o_getf 26 9 50), (26, o_iload 27 1), (27, o_iload 28 2), (28, o_iast 29), (29, o_aload 30 0), (30, o_getf 33 9 51), (33, o_iload 34 1), (34, o_const 35 0), (35, o_iast 36), (36, o_const 37 1), (37, o_iret)]
set_option maxRecDepth 20000 in
theorem t_X9_keep : ∀ q ∈ T_X9_keep, zS k_X9_keep q.1 q.2 := by
  unfold T_X9_keep
  refine List.forall_mem_cons.mpr ⟨s_iload_n (j := 1) (by decide +kernel) rfl rfl, ?_⟩
  refine List.forall_mem_cons.mpr ⟨s_calls (idx := 300) (k' := k_X9_isShelf) q6_44 q6_42 q6_43 q1_10 de_X9_isShelf (by decide) (by decide +kernel) rfl, ?_⟩
  refine List.forall_mem_cons.mpr ⟨s_if_eq (off := 16) (by decide +kernel) (by decide) rfl, ?_⟩
  refine List.forall_mem_cons.mpr ⟨s_iload_n (j := 2) (by decide +kernel) rfl rfl, ?_⟩
  refine List.forall_mem_cons.mpr ⟨s_iconst (by decide +kernel) rfl, ?_⟩
  refine List.forall_mem_cons.mpr ⟨s_icmp_eq (off := 13) (by decide +kernel) (by decide) rfl, ?_⟩
  refine List.forall_mem_cons.mpr ⟨s_aload_n (j := 0) (by decide +kernel) rfl rfl, ?_⟩
  refine List.forall_mem_cons.mpr ⟨s_iload_n (j := 2) (by decide +kernel) rfl rfl, ?_⟩
  refine List.forall_mem_cons.mpr ⟨s_callv (idx := 356) (k' := k_X9_isBody) (T := TX9) (N := 54) rfl q6_96 q6_93 q6_95 qs_64 q1_10 de_X9_isBody (by decide) (by decide +kernel) rfl, ?_⟩
  refine List.forall_mem_cons.mpr ⟨s_if_ne (off := 5) (by decide +kernel) (by decide) rfl, ?_⟩
  refine List.forall_mem_cons.mpr ⟨s_iconst (by decide +kernel) rfl, ?_⟩
  refine List.forall_mem_cons.mpr ⟨s_iret rfl (by decide +kernel), ?_⟩
  refine List.forall_mem_cons.mpr ⟨s_aload_n (j := 0) (by decide +kernel) rfl rfl, ?_⟩
  refine List.forall_mem_cons.mpr ⟨s_getf (idx := 104) (C := RX9) (T := TX9) (N := 54) rfl inX9 (by decide) q4_161 (by decide +kernel) rfl, ?_⟩
  refine List.forall_mem_cons.mpr ⟨s_iload_n (j := 1) (by decide +kernel) rfl rfl, ?_⟩
  refine List.forall_mem_cons.mpr ⟨s_iload_n (j := 2) (by decide +kernel) rfl rfl, ?_⟩
  refine List.forall_mem_cons.mpr ⟨s_iast (by decide +kernel) rfl, ?_⟩
  refine List.forall_mem_cons.mpr ⟨s_aload_n (j := 0) (by decide +kernel) rfl rfl, ?_⟩
  refine List.forall_mem_cons.mpr ⟨s_getf (idx := 107) (C := RX9) (T := TX9) (N := 54) rfl inX9 (by decide) q4_162 (by decide +kernel) rfl, ?_⟩
  refine List.forall_mem_cons.mpr ⟨s_iload_n (j := 1) (by decide +kernel) rfl rfl, ?_⟩
  refine List.forall_mem_cons.mpr ⟨s_iconst (by decide +kernel) rfl, ?_⟩
  refine List.forall_mem_cons.mpr ⟨s_iast (by decide +kernel) rfl, ?_⟩
  refine List.forall_mem_cons.mpr ⟨s_iconst (by decide +kernel) rfl, ?_⟩
  refine List.forall_mem_cons.mpr ⟨s_iret rfl (by decide +kernel), ?_⟩
  exact fun q hq => absurd hq List.not_mem_nil
def T_X9_row : List (Nat × zO) := [(0, o_iload 1 1), (1, o_calls 1 k_X9_isShelf 4), (4, o_if_eq 25 7), (7, o_iload 8 2), (8, o_i2l 9), (9, o_lconst 10 0), (10, o_lconst 13 (4)), (13, o_calls 3 k_X9_within 16), (16, o_if_eq 25 19), (19, o_iload 20 3), (20, o_const 22 60), (22, o_icmp_le 27 25), (25, o_const 26 (-1)), (26, o_iret), (27, o_iload 28 3), (28, o_if_ge 34 31), (31, o_const 33 (-14)), (33, o_iret), (34, o_aload 35 0), (35, o_getf 38 9 50), (38, o_iload 39 1), (39, o_const 41 50), (41, o_iload 42 2), (42, o_iadd 43), (43, o_iast 44), (44, o_aload 45 0), (45, o_getf 48 9 51), (48, o_iload 49 1), (49, o_iload 50 3), (50, o_iast 51), (51, o_const 53 60), (53, o_iload 54 1), (54, o_imul 55), (55, o_istore 57 4), (57, o_iload 59 4), (59, o_const 61 60), (61, o_iload 62 1), (62, o_imul 63), (63, o_const 65 60), (65, o_iadd 66), (66, o_icmp_ge 83 69), (69, o_aload 70 0), (70, o_getf 73 9 52), (73, o_iload 75 4), (75, o_lconst 76 0), (76, o_last 77), (77, o_iinc 80 4 1), (80, o_goto 57), (83, o_const 84 1), (84, o_iret)]
set_option maxRecDepth 20000 in
theorem t_X9_row : ∀ q ∈ T_X9_row, zS k_X9_row q.1 q.2 := by
  unfold T_X9_row
  refine List.forall_mem_cons.mpr ⟨s_iload_n (j := 1) (by decide +kernel) rfl rfl, ?_⟩
  refine List.forall_mem_cons.mpr ⟨s_calls (idx := 300) (k' := k_X9_isShelf) q6_44 q6_42 q6_43 q1_10 de_X9_isShelf (by decide) (by decide +kernel) rfl, ?_⟩
  refine List.forall_mem_cons.mpr ⟨s_if_eq (off := 21) (by decide +kernel) (by decide) rfl, ?_⟩
  refine List.forall_mem_cons.mpr ⟨s_iload_n (j := 2) (by decide +kernel) rfl rfl, ?_⟩
  refine List.forall_mem_cons.mpr ⟨s_i2l (by decide +kernel) rfl, ?_⟩
  refine List.forall_mem_cons.mpr ⟨s_lconst (z := 0) (by decide +kernel) (by decide) rfl, ?_⟩
  refine List.forall_mem_cons.mpr ⟨s_ldc2 (idx := 129) (y := (4)) (by decide +kernel) q5_47 rfl, ?_⟩
  refine List.forall_mem_cons.mpr ⟨s_calls (idx := 5) (k' := k_X9_within) q5_50 q5_48 q5_49 q1_10 de_X9_within (by decide) (by decide +kernel) rfl, ?_⟩
  refine List.forall_mem_cons.mpr ⟨s_if_eq (off := 9) (by decide +kernel) (by decide) rfl, ?_⟩
  refine List.forall_mem_cons.mpr ⟨s_iload_n (j := 3) (by decide +kernel) rfl rfl, ?_⟩
  refine List.forall_mem_cons.mpr ⟨s_bipush (by decide +kernel) (by decide) rfl, ?_⟩
  refine List.forall_mem_cons.mpr ⟨s_icmp_le (off := 5) (by decide +kernel) (by decide) rfl, ?_⟩
  refine List.forall_mem_cons.mpr ⟨s_iconst (by decide +kernel) rfl, ?_⟩
  refine List.forall_mem_cons.mpr ⟨s_iret rfl (by decide +kernel), ?_⟩
  refine List.forall_mem_cons.mpr ⟨s_iload_n (j := 3) (by decide +kernel) rfl rfl, ?_⟩
  refine List.forall_mem_cons.mpr ⟨s_if_ge (off := 6) (by decide +kernel) (by decide) rfl, ?_⟩
  refine List.forall_mem_cons.mpr ⟨s_bipush (by decide +kernel) (by decide) rfl, ?_⟩
  refine List.forall_mem_cons.mpr ⟨s_iret rfl (by decide +kernel), ?_⟩
  refine List.forall_mem_cons.mpr ⟨s_aload_n (j := 0) (by decide +kernel) rfl rfl, ?_⟩
  refine List.forall_mem_cons.mpr ⟨s_getf (idx := 104) (C := RX9) (T := TX9) (N := 54) rfl inX9 (by decide) q4_161 (by decide +kernel) rfl, ?_⟩
  refine List.forall_mem_cons.mpr ⟨s_iload_n (j := 1) (by decide +kernel) rfl rfl, ?_⟩
  refine List.forall_mem_cons.mpr ⟨s_bipush (by decide +kernel) (by decide) rfl, ?_⟩
  refine List.forall_mem_cons.mpr ⟨s_iload_n (j := 2) (by decide +kernel) rfl rfl, ?_⟩
  refine List.forall_mem_cons.mpr ⟨s_iadd (by decide +kernel) rfl, ?_⟩
  refine List.forall_mem_cons.mpr ⟨s_iast (by decide +kernel) rfl, ?_⟩
  refine List.forall_mem_cons.mpr ⟨s_aload_n (j := 0) (by decide +kernel) rfl rfl, ?_⟩
  refine List.forall_mem_cons.mpr ⟨s_getf (idx := 107) (C := RX9) (T := TX9) (N := 54) rfl inX9 (by decide) q4_162 (by decide +kernel) rfl, ?_⟩
  refine List.forall_mem_cons.mpr ⟨s_iload_n (j := 1) (by decide +kernel) rfl rfl, ?_⟩
  refine List.forall_mem_cons.mpr ⟨s_iload_n (j := 3) (by decide +kernel) rfl rfl, ?_⟩
  refine List.forall_mem_cons.mpr ⟨s_iast (by decide +kernel) rfl, ?_⟩
  refine List.forall_mem_cons.mpr ⟨s_bipush (by decide +kernel) (by decide) rfl, ?_⟩
  refine List.forall_mem_cons.mpr ⟨s_iload_n (j := 1) (by decide +kernel) rfl rfl, ?_⟩
  refine List.forall_mem_cons.mpr ⟨s_imul (by decide +kernel) rfl, ?_⟩
  refine List.forall_mem_cons.mpr ⟨s_istore (by decide +kernel) (by decide) rfl, ?_⟩
  refine List.forall_mem_cons.mpr ⟨s_iload (by decide +kernel) rfl, ?_⟩
  refine List.forall_mem_cons.mpr ⟨s_bipush (by decide +kernel) (by decide) rfl, ?_⟩
  refine List.forall_mem_cons.mpr ⟨s_iload_n (j := 1) (by decide +kernel) rfl rfl, ?_⟩
  refine List.forall_mem_cons.mpr ⟨s_imul (by decide +kernel) rfl, ?_⟩
  refine List.forall_mem_cons.mpr ⟨s_bipush (by decide +kernel) (by decide) rfl, ?_⟩
  refine List.forall_mem_cons.mpr ⟨s_iadd (by decide +kernel) rfl, ?_⟩
  refine List.forall_mem_cons.mpr ⟨s_icmp_ge (off := 17) (by decide +kernel) (by decide) rfl, ?_⟩
  refine List.forall_mem_cons.mpr ⟨s_aload_n (j := 0) (by decide +kernel) rfl rfl, ?_⟩
  refine List.forall_mem_cons.mpr ⟨s_getf (idx := 110) (C := RX9) (T := TX9) (N := 54) rfl inX9 (by decide) q4_163 (by decide +kernel) rfl, ?_⟩
  refine List.forall_mem_cons.mpr ⟨s_iload (by decide +kernel) rfl, ?_⟩
  refine List.forall_mem_cons.mpr ⟨s_lconst (z := 0) (by decide +kernel) (by decide) rfl, ?_⟩
  refine List.forall_mem_cons.mpr ⟨s_last (by decide +kernel) rfl, ?_⟩
  refine List.forall_mem_cons.mpr ⟨s_iinc (by decide +kernel) (by decide) rfl, ?_⟩
  refine List.forall_mem_cons.mpr ⟨s_goto (off := (-23)) (by decide +kernel) (by decide), ?_⟩
  refine List.forall_mem_cons.mpr ⟨s_iconst (by decide +kernel) rfl, ?_⟩
  refine List.forall_mem_cons.mpr ⟨s_iret rfl (by decide +kernel), ?_⟩
  exact fun q hq => absurd hq List.not_mem_nil
def T_X9_refusal : List (Nat × zO) := [(0, o_iload 1 1), (1, o_calls 1 k_X9_isShelf 4), (4, o_if_ne 9 7), (7, o_const 8 (-1)), (8, o_iret), (9, o_aload 10 0), (10, o_getf 13 9 50), (13, o_iload 14 1), (14, o_iald 15), (15, o_if_ge 21 18), (18, o_const 20 (-11)), (20, o_iret), (21, o_aload 22 0), (22, o_getf 25 9 50), (25, o_iload 26 1), (26, o_iald 27), (27, o_const 29 50), (29, o_icmp_ge 35 32), (32, o_const 34 (-12)), (34, o_iret), (35, o_iload 36 2), (36, o_if_lt 53 39), (39, o_iload 40 2), (40, o_aload 41 0), (41, o_getf 44 9 51), (44, o_iload 45 1), (45, o_iald 46), (46, o_icmp_ge 53 49), (49, o_const 50 0), (50, o_goto 55), (53, o_const 55 (-13)), (55, o_iret)]
set_option maxRecDepth 20000 in
theorem t_X9_refusal : ∀ q ∈ T_X9_refusal, zS k_X9_refusal q.1 q.2 := by
  unfold T_X9_refusal
  refine List.forall_mem_cons.mpr ⟨s_iload_n (j := 1) (by decide +kernel) rfl rfl, ?_⟩
  refine List.forall_mem_cons.mpr ⟨s_calls (idx := 300) (k' := k_X9_isShelf) q6_44 q6_42 q6_43 q1_10 de_X9_isShelf (by decide) (by decide +kernel) rfl, ?_⟩
  refine List.forall_mem_cons.mpr ⟨s_if_ne (off := 5) (by decide +kernel) (by decide) rfl, ?_⟩
  refine List.forall_mem_cons.mpr ⟨s_iconst (by decide +kernel) rfl, ?_⟩
  refine List.forall_mem_cons.mpr ⟨s_iret rfl (by decide +kernel), ?_⟩
  refine List.forall_mem_cons.mpr ⟨s_aload_n (j := 0) (by decide +kernel) rfl rfl, ?_⟩
  refine List.forall_mem_cons.mpr ⟨s_getf (idx := 104) (C := RX9) (T := TX9) (N := 54) rfl inX9 (by decide) q4_161 (by decide +kernel) rfl, ?_⟩
  refine List.forall_mem_cons.mpr ⟨s_iload_n (j := 1) (by decide +kernel) rfl rfl, ?_⟩
  refine List.forall_mem_cons.mpr ⟨s_iald (by decide +kernel) rfl, ?_⟩
  refine List.forall_mem_cons.mpr ⟨s_if_ge (off := 6) (by decide +kernel) (by decide) rfl, ?_⟩
  refine List.forall_mem_cons.mpr ⟨s_bipush (by decide +kernel) (by decide) rfl, ?_⟩
  refine List.forall_mem_cons.mpr ⟨s_iret rfl (by decide +kernel), ?_⟩
  refine List.forall_mem_cons.mpr ⟨s_aload_n (j := 0) (by decide +kernel) rfl rfl, ?_⟩
  refine List.forall_mem_cons.mpr ⟨s_getf (idx := 104) (C := RX9) (T := TX9) (N := 54) rfl inX9 (by decide) q4_161 (by decide +kernel) rfl, ?_⟩
  refine List.forall_mem_cons.mpr ⟨s_iload_n (j := 1) (by decide +kernel) rfl rfl, ?_⟩
  refine List.forall_mem_cons.mpr ⟨s_iald (by decide +kernel) rfl, ?_⟩
  refine List.forall_mem_cons.mpr ⟨s_bipush (by decide +kernel) (by decide) rfl, ?_⟩
  refine List.forall_mem_cons.mpr ⟨s_icmp_ge (off := 6) (by decide +kernel) (by decide) rfl, ?_⟩
  refine List.forall_mem_cons.mpr ⟨s_bipush (by decide +kernel) (by decide) rfl, ?_⟩
  refine List.forall_mem_cons.mpr ⟨s_iret rfl (by decide +kernel), ?_⟩
  refine List.forall_mem_cons.mpr ⟨s_iload_n (j := 2) (by decide +kernel) rfl rfl, ?_⟩
  refine List.forall_mem_cons.mpr ⟨s_if_lt (off := 17) (by decide +kernel) (by decide) rfl, ?_⟩
  refine List.forall_mem_cons.mpr ⟨s_iload_n (j := 2) (by decide +kernel) rfl rfl, ?_⟩
  refine List.forall_mem_cons.mpr ⟨s_aload_n (j := 0) (by decide +kernel) rfl rfl, ?_⟩
  refine List.forall_mem_cons.mpr ⟨s_getf (idx := 107) (C := RX9) (T := TX9) (N := 54) rfl inX9 (by decide) q4_162 (by decide +kernel) rfl, ?_⟩
  refine List.forall_mem_cons.mpr ⟨s_iload_n (j := 1) (by decide +kernel) rfl rfl, ?_⟩
  refine List.forall_mem_cons.mpr ⟨s_iald (by decide +kernel) rfl, ?_⟩
  refine List.forall_mem_cons.mpr ⟨s_icmp_ge (off := 7) (by decide +kernel) (by decide) rfl, ?_⟩
  refine List.forall_mem_cons.mpr ⟨s_iconst (by decide +kernel) rfl, ?_⟩
  refine List.forall_mem_cons.mpr ⟨s_goto (off := 5) (by decide +kernel) (by decide), ?_⟩
  refine List.forall_mem_cons.mpr ⟨s_bipush (by decide +kernel) (by decide) rfl, ?_⟩
  refine List.forall_mem_cons.mpr ⟨s_iret rfl (by decide +kernel), ?_⟩
  exact fun q hq => absurd hq List.not_mem_nil
def T_X9_asSort : List (Nat × zO) := [(0, o_iload 1 0), (1, o_if_ne 11 4), (4, o_lload 5 1), (5, o_l2i 6), (6, o_i2b 7), (7, o_i2l 8), (8, o_goto 54), (11, o_iload 12 0), (12, o_const 13 1), (13, o_icmp_ne 23 16), (16, o_lload 17 1), (17, o_l2i 18), (18, o_i2s 19), (19, o_i2l 20), (20, o_goto 54), (23, o_iload 24 0), (24, o_const 25 2), (25, o_icmp_ne 34 28), (28, o_lload 29 1), (29, o_l2i 30), (30, o_i2l 31), (31, o_goto 54), (34, o_iload 35 0), (35, o_const 36 4), (36, o_icmp_ne 53 39), (39, o_lload 40 1), (40, o_lconst 41 0), (41, o_lcmp 42), (42, o_if_eq 49 45), (45, o_lconst 46 1), (46, o_goto 54), (49, o_lconst 50 0), (50, o_goto 54), (53, o_lload 54 1), (54, o_lret)]
set_option maxRecDepth 20000 in
theorem t_X9_asSort : ∀ q ∈ T_X9_asSort, zS k_X9_asSort q.1 q.2 := by
  unfold T_X9_asSort
  refine List.forall_mem_cons.mpr ⟨s_iload_n (j := 0) (by decide +kernel) rfl rfl, ?_⟩
  refine List.forall_mem_cons.mpr ⟨s_if_ne (off := 10) (by decide +kernel) (by decide) rfl, ?_⟩
  refine List.forall_mem_cons.mpr ⟨s_lload_n (j := 1) (by decide +kernel) rfl rfl, ?_⟩
  refine List.forall_mem_cons.mpr ⟨s_l2i (by decide +kernel) rfl, ?_⟩
  refine List.forall_mem_cons.mpr ⟨s_i2b (by decide +kernel) rfl, ?_⟩
  refine List.forall_mem_cons.mpr ⟨s_i2l (by decide +kernel) rfl, ?_⟩
  refine List.forall_mem_cons.mpr ⟨s_goto (off := 46) (by decide +kernel) (by decide), ?_⟩
  refine List.forall_mem_cons.mpr ⟨s_iload_n (j := 0) (by decide +kernel) rfl rfl, ?_⟩
  refine List.forall_mem_cons.mpr ⟨s_iconst (by decide +kernel) rfl, ?_⟩
  refine List.forall_mem_cons.mpr ⟨s_icmp_ne (off := 10) (by decide +kernel) (by decide) rfl, ?_⟩
  refine List.forall_mem_cons.mpr ⟨s_lload_n (j := 1) (by decide +kernel) rfl rfl, ?_⟩
  refine List.forall_mem_cons.mpr ⟨s_l2i (by decide +kernel) rfl, ?_⟩
  refine List.forall_mem_cons.mpr ⟨s_i2s (by decide +kernel) rfl, ?_⟩
  refine List.forall_mem_cons.mpr ⟨s_i2l (by decide +kernel) rfl, ?_⟩
  refine List.forall_mem_cons.mpr ⟨s_goto (off := 34) (by decide +kernel) (by decide), ?_⟩
  refine List.forall_mem_cons.mpr ⟨s_iload_n (j := 0) (by decide +kernel) rfl rfl, ?_⟩
  refine List.forall_mem_cons.mpr ⟨s_iconst (by decide +kernel) rfl, ?_⟩
  refine List.forall_mem_cons.mpr ⟨s_icmp_ne (off := 9) (by decide +kernel) (by decide) rfl, ?_⟩
  refine List.forall_mem_cons.mpr ⟨s_lload_n (j := 1) (by decide +kernel) rfl rfl, ?_⟩
  refine List.forall_mem_cons.mpr ⟨s_l2i (by decide +kernel) rfl, ?_⟩
  refine List.forall_mem_cons.mpr ⟨s_i2l (by decide +kernel) rfl, ?_⟩
  refine List.forall_mem_cons.mpr ⟨s_goto (off := 23) (by decide +kernel) (by decide), ?_⟩
  refine List.forall_mem_cons.mpr ⟨s_iload_n (j := 0) (by decide +kernel) rfl rfl, ?_⟩
  refine List.forall_mem_cons.mpr ⟨s_iconst (by decide +kernel) rfl, ?_⟩
  refine List.forall_mem_cons.mpr ⟨s_icmp_ne (off := 17) (by decide +kernel) (by decide) rfl, ?_⟩
  refine List.forall_mem_cons.mpr ⟨s_lload_n (j := 1) (by decide +kernel) rfl rfl, ?_⟩
  refine List.forall_mem_cons.mpr ⟨s_lconst (z := 0) (by decide +kernel) (by decide) rfl, ?_⟩
  refine List.forall_mem_cons.mpr ⟨s_lcmp (by decide +kernel) rfl, ?_⟩
  refine List.forall_mem_cons.mpr ⟨s_if_eq (off := 7) (by decide +kernel) (by decide) rfl, ?_⟩
  refine List.forall_mem_cons.mpr ⟨s_lconst (z := 1) (by decide +kernel) (by decide) rfl, ?_⟩
  refine List.forall_mem_cons.mpr ⟨s_goto (off := 8) (by decide +kernel) (by decide), ?_⟩
  refine List.forall_mem_cons.mpr ⟨s_lconst (z := 0) (by decide +kernel) (by decide) rfl, ?_⟩
  refine List.forall_mem_cons.mpr ⟨s_goto (off := 4) (by decide +kernel) (by decide), ?_⟩
  refine List.forall_mem_cons.mpr ⟨s_lload_n (j := 1) (by decide +kernel) rfl rfl, ?_⟩
  refine List.forall_mem_cons.mpr ⟨s_lret rfl (by decide +kernel), ?_⟩
  exact fun q hq => absurd hq List.not_mem_nil
def T_X9_put : List (Nat × zO) := [(0, o_aload 1 0), (1, o_iload 2 1), (2, o_iload 3 2), (3, o_callv 2 9 k_X9_refusal 6), (6, o_istore 8 5), (8, o_iload 10 5), (10, o_if_ne 37 13), (13, o_aload 14 0), (14, o_getf 17 9 52), (17, o_const 19 60), (19, o_iload 20 1), (20, o_imul 21), (21, o_iload 22 2), (22, o_iadd 23), (23, o_aload 24 0), (24, o_getf 27 9 50), (27, o_iload 28 1), (28, o_iald 29), (29, o_const 31 50), (31, o_isub 32), (32, o_lload 33 3), (33, o_calls 2 k_X9_asSort 36), (36, o_last 37), (37, o_iload 39 5), (39, o_if_ne 46 42), (42, o_const 43 1), (43, o_goto 48), (46, o_iload 48 5), (48, o_iret)]
set_option maxRecDepth 20000 in
theorem t_X9_put : ∀ q ∈ T_X9_put, zS k_X9_put q.1 q.2 := by
  unfold T_X9_put
  refine List.forall_mem_cons.mpr ⟨s_aload_n (j := 0) (by decide +kernel) rfl rfl, ?_⟩
  refine List.forall_mem_cons.mpr ⟨s_iload_n (j := 1) (by decide +kernel) rfl rfl, ?_⟩
  refine List.forall_mem_cons.mpr ⟨s_iload_n (j := 2) (by decide +kernel) rfl rfl, ?_⟩
  refine List.forall_mem_cons.mpr ⟨s_callv (idx := 361) (k' := k_X9_refusal) (T := TX9) (N := 54) rfl q6_136 q6_133 q6_135 qs_70 q1_10 de_X9_refusal (by decide) (by decide +kernel) rfl, ?_⟩
  refine List.forall_mem_cons.mpr ⟨s_istore (by decide +kernel) (by decide) rfl, ?_⟩
  refine List.forall_mem_cons.mpr ⟨s_iload (by decide +kernel) rfl, ?_⟩
  refine List.forall_mem_cons.mpr ⟨s_if_ne (off := 27) (by decide +kernel) (by decide) rfl, ?_⟩
  refine List.forall_mem_cons.mpr ⟨s_aload_n (j := 0) (by decide +kernel) rfl rfl, ?_⟩
  refine List.forall_mem_cons.mpr ⟨s_getf (idx := 110) (C := RX9) (T := TX9) (N := 54) rfl inX9 (by decide) q4_163 (by decide +kernel) rfl, ?_⟩
  refine List.forall_mem_cons.mpr ⟨s_bipush (by decide +kernel) (by decide) rfl, ?_⟩
  refine List.forall_mem_cons.mpr ⟨s_iload_n (j := 1) (by decide +kernel) rfl rfl, ?_⟩
  refine List.forall_mem_cons.mpr ⟨s_imul (by decide +kernel) rfl, ?_⟩
  refine List.forall_mem_cons.mpr ⟨s_iload_n (j := 2) (by decide +kernel) rfl rfl, ?_⟩
  refine List.forall_mem_cons.mpr ⟨s_iadd (by decide +kernel) rfl, ?_⟩
  refine List.forall_mem_cons.mpr ⟨s_aload_n (j := 0) (by decide +kernel) rfl rfl, ?_⟩
  refine List.forall_mem_cons.mpr ⟨s_getf (idx := 104) (C := RX9) (T := TX9) (N := 54) rfl inX9 (by decide) q4_161 (by decide +kernel) rfl, ?_⟩
  refine List.forall_mem_cons.mpr ⟨s_iload_n (j := 1) (by decide +kernel) rfl rfl, ?_⟩
  refine List.forall_mem_cons.mpr ⟨s_iald (by decide +kernel) rfl, ?_⟩
  refine List.forall_mem_cons.mpr ⟨s_bipush (by decide +kernel) (by decide) rfl, ?_⟩
  refine List.forall_mem_cons.mpr ⟨s_isub (by decide +kernel) rfl, ?_⟩
  refine List.forall_mem_cons.mpr ⟨s_lload_n (j := 3) (by decide +kernel) rfl rfl, ?_⟩
  refine List.forall_mem_cons.mpr ⟨s_calls (idx := 364) (k' := k_X9_asSort) q6_139 q6_137 q6_138 q1_10 de_X9_asSort (by decide) (by decide +kernel) rfl, ?_⟩
  refine List.forall_mem_cons.mpr ⟨s_last (by decide +kernel) rfl, ?_⟩
  refine List.forall_mem_cons.mpr ⟨s_iload (by decide +kernel) rfl, ?_⟩
  refine List.forall_mem_cons.mpr ⟨s_if_ne (off := 7) (by decide +kernel) (by decide) rfl, ?_⟩
  refine List.forall_mem_cons.mpr ⟨s_iconst (by decide +kernel) rfl, ?_⟩
  refine List.forall_mem_cons.mpr ⟨s_goto (off := 5) (by decide +kernel) (by decide), ?_⟩
  refine List.forall_mem_cons.mpr ⟨s_iload (by decide +kernel) rfl, ?_⟩
  refine List.forall_mem_cons.mpr ⟨s_iret rfl (by decide +kernel), ?_⟩
  exact fun q hq => absurd hq List.not_mem_nil
def T_X9_element : List (Nat × zO) := [(0, o_aload 1 0), (1, o_iload 2 1), (2, o_iload 3 2), (3, o_callv 2 9 k_X9_refusal 6), (6, o_if_eq 15 9), (9, o_lconst 12 (-9223372036854775808)), (12, o_goto 26), (15, o_aload 16 0), (16, o_getf 19 9 52), (19, o_const 21 60), (21, o_iload 22 1), (22, o_imul 23), (23, o_iload 24 2), (24, o_iadd 25), (25, o_lald 26), (26, o_lret)]
set_option maxRecDepth 20000 in
theorem t_X9_element : ∀ q ∈ T_X9_element, zS k_X9_element q.1 q.2 := by
  unfold T_X9_element
  refine List.forall_mem_cons.mpr ⟨s_aload_n (j := 0) (by decide +kernel) rfl rfl, ?_⟩
  refine List.forall_mem_cons.mpr ⟨s_iload_n (j := 1) (by decide +kernel) rfl rfl, ?_⟩
  refine List.forall_mem_cons.mpr ⟨s_iload_n (j := 2) (by decide +kernel) rfl rfl, ?_⟩
  refine List.forall_mem_cons.mpr ⟨s_callv (idx := 361) (k' := k_X9_refusal) (T := TX9) (N := 54) rfl q6_136 q6_133 q6_135 qs_70 q1_10 de_X9_refusal (by decide) (by decide +kernel) rfl, ?_⟩
  refine List.forall_mem_cons.mpr ⟨s_if_eq (off := 9) (by decide +kernel) (by decide) rfl, ?_⟩
  refine List.forall_mem_cons.mpr ⟨s_ldc2 (idx := 370) (y := (-9223372036854775808)) (by decide +kernel) q6_144 rfl, ?_⟩
  refine List.forall_mem_cons.mpr ⟨s_goto (off := 14) (by decide +kernel) (by decide), ?_⟩
  refine List.forall_mem_cons.mpr ⟨s_aload_n (j := 0) (by decide +kernel) rfl rfl, ?_⟩
  refine List.forall_mem_cons.mpr ⟨s_getf (idx := 110) (C := RX9) (T := TX9) (N := 54) rfl inX9 (by decide) q4_163 (by decide +kernel) rfl, ?_⟩
  refine List.forall_mem_cons.mpr ⟨s_bipush (by decide +kernel) (by decide) rfl, ?_⟩
  refine List.forall_mem_cons.mpr ⟨s_iload_n (j := 1) (by decide +kernel) rfl rfl, ?_⟩
  refine List.forall_mem_cons.mpr ⟨s_imul (by decide +kernel) rfl, ?_⟩
  refine List.forall_mem_cons.mpr ⟨s_iload_n (j := 2) (by decide +kernel) rfl rfl, ?_⟩
  refine List.forall_mem_cons.mpr ⟨s_iadd (by decide +kernel) rfl, ?_⟩
  refine List.forall_mem_cons.mpr ⟨s_lald (by decide +kernel) rfl, ?_⟩
  refine List.forall_mem_cons.mpr ⟨s_lret rfl (by decide +kernel), ?_⟩
  exact fun q hq => absurd hq List.not_mem_nil
def T_X9_shift : List (Nat × zO) := [(0, o_iload 1 1), (1, o_calls 1 k_X9_isShelf 4), (4, o_if_eq 14 7), (7, o_iload 8 3), (8, o_calls 1 k_X9_isShelf 11), (11, o_if_ne 16 14), (14, o_const 15 (-1)), (15, o_iret), (16, o_aload 17 0), (17, o_getf 20 9 50), (20, o_iload 21 1), (21, o_iald 22), (22, o_if_lt 34 25), (25, o_aload 26 0), (26, o_getf 29 9 50), (29, o_iload 30 3), (30, o_iald 31), (31, o_if_ge 37 34), (34, o_const 36 (-11)), (36, o_iret), (37, o_aload 38 0), (38, o_getf 41 9 50), (41, o_iload 42 1), (42, o_iald 43), (43, o_const 45 50), (45, o_icmp_lt 63 48), (48, o_aload 49 0), (49, o_getf 52 9 50), (52, o_iload 53 1), (53, o_iald 54), (54, o_aload 55 0), (55, o_getf 58 9 50), (58, o_iload 59 3), (59, o_iald 60), (60, o_icmp_eq 66 63), (63, o_const 65 (-12)), (65, o_iret), (66, o_iload 68 5), (68, o_if_lt 107 71), (71, o_iload 72 2), (72, o_if_lt 107 75), (75, o_iload 77 4), (77, o_if_lt 107 80), (80, o_iload 81 2), (81, o_aload 82 0), (82, o_getf 85 9 51), (85, o_iload 86 1), (86, o_iald 87), (87, o_iload 89 5), (89, o_isub 90), (90, o_icmp_gt 107 93), (93, o_iload 95 4), (95, o_aload 96 0), (96, o_getf 99 9 51), (99, o_iload 100 3), (100, o_iald 101), (101, o_iload 103 5), (103, o_isub 104), (104, o_icmp_le 110 107), (107, o_const 109 (-13)), (109, o_iret), (110, o_const 111 0), (111, o_istore 113 6), (113, o_iload 115 6), (115, o_iload 117 5), (117, o_icmp_ge 147 120), (120, o_aload 121 0), (121, o_getf 124 9 53), (124, o_iload 126 6), (126, o_aload 127 0), (127, o_getf 130 9 52), (130, o_const 132 60), (132, o_iload 133 1), (133, o_imul 134), (134, o_iload 135 2), (135, o_iadd 136), (136, o_iload 138 6), (138, o_iadd 139), (139, o_lald 140), (140, o_last 141), (141, o_iinc 144 6 1), (144, o_goto 113), (147, o_const 148 0), (148, o_istore 150 6), (150, o_iload 152 6), (152, o_iload 154 5), (154, o_icmp_ge 185 157), (157, o_aload 158 0), (158, o_getf 161 9 52), (161, o_const 163 60), (163, o_iload 164 3), (164, o_imul 165), (165, o_iload 167 4), (167, o_iadd 168), (168, o_iload 170 6), (170, o_iadd 171), (171, o_aload 172 0), (172, o_getf 175 9 53), (175, o_iload 177 6), (177, o_lald 178), (178, o_last 179), (179, o_iinc 182 6 1), (182, o_goto 150), (185, o_iload 187 5), (187, o_iret)]
set_option maxRecDepth 20000 in
theorem t_X9_shift : ∀ q ∈ T_X9_shift, zS k_X9_shift q.1 q.2 := by
  unfold T_X9_shift
  refine List.forall_mem_cons.mpr ⟨s_iload_n (j := 1) (by decide +kernel) rfl rfl, ?_⟩
  refine List.forall_mem_cons.mpr ⟨s_calls (idx := 300) (k' := k_X9_isShelf) q6_44 q6_42 q6_43 q1_10 de_X9_isShelf (by decide) (by decide +kernel) rfl, ?_⟩
  refine List.forall_mem_cons.mpr ⟨s_if_eq (off := 10) (by decide +kernel) (by decide) rfl, ?_⟩
  refine List.forall_mem_cons.mpr ⟨s_iload_n (j := 3) (by decide +kernel) rfl rfl, ?_⟩
  refine List.forall_mem_cons.mpr ⟨s_calls (idx := 300) (k' := k_X9_isShelf) q6_44 q6_42 q6_43 q1_10 de_X9_isShelf (by decide) (by decide +kernel) rfl, ?_⟩
  refine List.forall_mem_cons.mpr ⟨s_if_ne (off := 5) (by decide +kernel) (by decide) rfl, ?_⟩
  refine List.forall_mem_cons.mpr ⟨s_iconst (by decide +kernel) rfl, ?_⟩
  refine List.forall_mem_cons.mpr ⟨s_iret rfl (by decide +kernel), ?_⟩
  refine List.forall_mem_cons.mpr ⟨s_aload_n (j := 0) (by decide +kernel) rfl rfl, ?_⟩
  refine List.forall_mem_cons.mpr ⟨s_getf (idx := 104) (C := RX9) (T := TX9) (N := 54) rfl inX9 (by decide) q4_161 (by decide +kernel) rfl, ?_⟩
  refine List.forall_mem_cons.mpr ⟨s_iload_n (j := 1) (by decide +kernel) rfl rfl, ?_⟩
  refine List.forall_mem_cons.mpr ⟨s_iald (by decide +kernel) rfl, ?_⟩
  refine List.forall_mem_cons.mpr ⟨s_if_lt (off := 12) (by decide +kernel) (by decide) rfl, ?_⟩
  refine List.forall_mem_cons.mpr ⟨s_aload_n (j := 0) (by decide +kernel) rfl rfl, ?_⟩
  refine List.forall_mem_cons.mpr ⟨s_getf (idx := 104) (C := RX9) (T := TX9) (N := 54) rfl inX9 (by decide) q4_161 (by decide +kernel) rfl, ?_⟩
  refine List.forall_mem_cons.mpr ⟨s_iload_n (j := 3) (by decide +kernel) rfl rfl, ?_⟩
  refine List.forall_mem_cons.mpr ⟨s_iald (by decide +kernel) rfl, ?_⟩
  refine List.forall_mem_cons.mpr ⟨s_if_ge (off := 6) (by decide +kernel) (by decide) rfl, ?_⟩
  refine List.forall_mem_cons.mpr ⟨s_bipush (by decide +kernel) (by decide) rfl, ?_⟩
  refine List.forall_mem_cons.mpr ⟨s_iret rfl (by decide +kernel), ?_⟩
  refine List.forall_mem_cons.mpr ⟨s_aload_n (j := 0) (by decide +kernel) rfl rfl, ?_⟩
  refine List.forall_mem_cons.mpr ⟨s_getf (idx := 104) (C := RX9) (T := TX9) (N := 54) rfl inX9 (by decide) q4_161 (by decide +kernel) rfl, ?_⟩
  refine List.forall_mem_cons.mpr ⟨s_iload_n (j := 1) (by decide +kernel) rfl rfl, ?_⟩
  refine List.forall_mem_cons.mpr ⟨s_iald (by decide +kernel) rfl, ?_⟩
  refine List.forall_mem_cons.mpr ⟨s_bipush (by decide +kernel) (by decide) rfl, ?_⟩
  refine List.forall_mem_cons.mpr ⟨s_icmp_lt (off := 18) (by decide +kernel) (by decide) rfl, ?_⟩
  refine List.forall_mem_cons.mpr ⟨s_aload_n (j := 0) (by decide +kernel) rfl rfl, ?_⟩
  refine List.forall_mem_cons.mpr ⟨s_getf (idx := 104) (C := RX9) (T := TX9) (N := 54) rfl inX9 (by decide) q4_161 (by decide +kernel) rfl, ?_⟩
  refine List.forall_mem_cons.mpr ⟨s_iload_n (j := 1) (by decide +kernel) rfl rfl, ?_⟩
  refine List.forall_mem_cons.mpr ⟨s_iald (by decide +kernel) rfl, ?_⟩
  refine List.forall_mem_cons.mpr ⟨s_aload_n (j := 0) (by decide +kernel) rfl rfl, ?_⟩
  refine List.forall_mem_cons.mpr ⟨s_getf (idx := 104) (C := RX9) (T := TX9) (N := 54) rfl inX9 (by decide) q4_161 (by decide +kernel) rfl, ?_⟩
  refine List.forall_mem_cons.mpr ⟨s_iload_n (j := 3) (by decide +kernel) rfl rfl, ?_⟩
  refine List.forall_mem_cons.mpr ⟨s_iald (by decide +kernel) rfl, ?_⟩
  refine List.forall_mem_cons.mpr ⟨s_icmp_eq (off := 6) (by decide +kernel) (by decide) rfl, ?_⟩
  refine List.forall_mem_cons.mpr ⟨s_bipush (by decide +kernel) (by decide) rfl, ?_⟩
  refine List.forall_mem_cons.mpr ⟨s_iret rfl (by decide +kernel), ?_⟩
  refine List.forall_mem_cons.mpr ⟨s_iload (by decide +kernel) rfl, ?_⟩
  refine List.forall_mem_cons.mpr ⟨s_if_lt (off := 39) (by decide +kernel) (by decide) rfl, ?_⟩
  refine List.forall_mem_cons.mpr ⟨s_iload_n (j := 2) (by decide +kernel) rfl rfl, ?_⟩
  refine List.forall_mem_cons.mpr ⟨s_if_lt (off := 35) (by decide +kernel) (by decide) rfl, ?_⟩
  refine List.forall_mem_cons.mpr ⟨s_iload (by decide +kernel) rfl, ?_⟩
  refine List.forall_mem_cons.mpr ⟨s_if_lt (off := 30) (by decide +kernel) (by decide) rfl, ?_⟩
  refine List.forall_mem_cons.mpr ⟨s_iload_n (j := 2) (by decide +kernel) rfl rfl, ?_⟩
  refine List.forall_mem_cons.mpr ⟨s_aload_n (j := 0) (by decide +kernel) rfl rfl, ?_⟩
  refine List.forall_mem_cons.mpr ⟨s_getf (idx := 107) (C := RX9) (T := TX9) (N := 54) rfl inX9 (by decide) q4_162 (by decide +kernel) rfl, ?_⟩
  refine List.forall_mem_cons.mpr ⟨s_iload_n (j := 1) (by decide +kernel) rfl rfl, ?_⟩
  refine List.forall_mem_cons.mpr ⟨s_iald (by decide +kernel) rfl, ?_⟩
  refine List.forall_mem_cons.mpr ⟨s_iload (by decide +kernel) rfl, ?_⟩
  refine List.forall_mem_cons.mpr ⟨s_isub (by decide +kernel) rfl, ?_⟩
  refine List.forall_mem_cons.mpr ⟨s_icmp_gt (off := 17) (by decide +kernel) (by decide) rfl, ?_⟩
  refine List.forall_mem_cons.mpr ⟨s_iload (by decide +kernel) rfl, ?_⟩
  refine List.forall_mem_cons.mpr ⟨s_aload_n (j := 0) (by decide +kernel) rfl rfl, ?_⟩
  refine List.forall_mem_cons.mpr ⟨s_getf (idx := 107) (C := RX9) (T := TX9) (N := 54) rfl inX9 (by decide) q4_162 (by decide +kernel) rfl, ?_⟩
  refine List.forall_mem_cons.mpr ⟨s_iload_n (j := 3) (by decide +kernel) rfl rfl, ?_⟩
  refine List.forall_mem_cons.mpr ⟨s_iald (by decide +kernel) rfl, ?_⟩
  refine List.forall_mem_cons.mpr ⟨s_iload (by decide +kernel) rfl, ?_⟩
  refine List.forall_mem_cons.mpr ⟨s_isub (by decide +kernel) rfl, ?_⟩
  refine List.forall_mem_cons.mpr ⟨s_icmp_le (off := 6) (by decide +kernel) (by decide) rfl, ?_⟩
  refine List.forall_mem_cons.mpr ⟨s_bipush (by decide +kernel) (by decide) rfl, ?_⟩
  refine List.forall_mem_cons.mpr ⟨s_iret rfl (by decide +kernel), ?_⟩
  refine List.forall_mem_cons.mpr ⟨s_iconst (by decide +kernel) rfl, ?_⟩
  refine List.forall_mem_cons.mpr ⟨s_istore (by decide +kernel) (by decide) rfl, ?_⟩
  refine List.forall_mem_cons.mpr ⟨s_iload (by decide +kernel) rfl, ?_⟩
  refine List.forall_mem_cons.mpr ⟨s_iload (by decide +kernel) rfl, ?_⟩
  refine List.forall_mem_cons.mpr ⟨s_icmp_ge (off := 30) (by decide +kernel) (by decide) rfl, ?_⟩
  refine List.forall_mem_cons.mpr ⟨s_aload_n (j := 0) (by decide +kernel) rfl rfl, ?_⟩
  refine List.forall_mem_cons.mpr ⟨s_getf (idx := 114) (C := RX9) (T := TX9) (N := 54) rfl inX9 (by decide) q4_164 (by decide +kernel) rfl, ?_⟩
  refine List.forall_mem_cons.mpr ⟨s_iload (by decide +kernel) rfl, ?_⟩
  refine List.forall_mem_cons.mpr ⟨s_aload_n (j := 0) (by decide +kernel) rfl rfl, ?_⟩
  refine List.forall_mem_cons.mpr ⟨s_getf (idx := 110) (C := RX9) (T := TX9) (N := 54) rfl inX9 (by decide) q4_163 (by decide +kernel) rfl, ?_⟩
  refine List.forall_mem_cons.mpr ⟨s_bipush (by decide +kernel) (by decide) rfl, ?_⟩
  refine List.forall_mem_cons.mpr ⟨s_iload_n (j := 1) (by decide +kernel) rfl rfl, ?_⟩
  refine List.forall_mem_cons.mpr ⟨s_imul (by decide +kernel) rfl, ?_⟩
  refine List.forall_mem_cons.mpr ⟨s_iload_n (j := 2) (by decide +kernel) rfl rfl, ?_⟩
  refine List.forall_mem_cons.mpr ⟨s_iadd (by decide +kernel) rfl, ?_⟩
  refine List.forall_mem_cons.mpr ⟨s_iload (by decide +kernel) rfl, ?_⟩
  refine List.forall_mem_cons.mpr ⟨s_iadd (by decide +kernel) rfl, ?_⟩
  refine List.forall_mem_cons.mpr ⟨s_lald (by decide +kernel) rfl, ?_⟩
  refine List.forall_mem_cons.mpr ⟨s_last (by decide +kernel) rfl, ?_⟩
  refine List.forall_mem_cons.mpr ⟨s_iinc (by decide +kernel) (by decide) rfl, ?_⟩
  refine List.forall_mem_cons.mpr ⟨s_goto (off := (-31)) (by decide +kernel) (by decide), ?_⟩
  refine List.forall_mem_cons.mpr ⟨s_iconst (by decide +kernel) rfl, ?_⟩
  refine List.forall_mem_cons.mpr ⟨s_istore (by decide +kernel) (by decide) rfl, ?_⟩
  refine List.forall_mem_cons.mpr ⟨s_iload (by decide +kernel) rfl, ?_⟩
  refine List.forall_mem_cons.mpr ⟨s_iload (by decide +kernel) rfl, ?_⟩
  refine List.forall_mem_cons.mpr ⟨s_icmp_ge (off := 31) (by decide +kernel) (by decide) rfl, ?_⟩
  refine List.forall_mem_cons.mpr ⟨s_aload_n (j := 0) (by decide +kernel) rfl rfl, ?_⟩
  refine List.forall_mem_cons.mpr ⟨s_getf (idx := 110) (C := RX9) (T := TX9) (N := 54) rfl inX9 (by decide) q4_163 (by decide +kernel) rfl, ?_⟩
  refine List.forall_mem_cons.mpr ⟨s_bipush (by decide +kernel) (by decide) rfl, ?_⟩
  refine List.forall_mem_cons.mpr ⟨s_iload_n (j := 3) (by decide +kernel) rfl rfl, ?_⟩
  refine List.forall_mem_cons.mpr ⟨s_imul (by decide +kernel) rfl, ?_⟩
  refine List.forall_mem_cons.mpr ⟨s_iload (by decide +kernel) rfl, ?_⟩
  refine List.forall_mem_cons.mpr ⟨s_iadd (by decide +kernel) rfl, ?_⟩
  refine List.forall_mem_cons.mpr ⟨s_iload (by decide +kernel) rfl, ?_⟩
  refine List.forall_mem_cons.mpr ⟨s_iadd (by decide +kernel) rfl, ?_⟩
  refine List.forall_mem_cons.mpr ⟨s_aload_n (j := 0) (by decide +kernel) rfl rfl, ?_⟩
  refine List.forall_mem_cons.mpr ⟨s_getf (idx := 114) (C := RX9) (T := TX9) (N := 54) rfl inX9 (by decide) q4_164 (by decide +kernel) rfl, ?_⟩
  refine List.forall_mem_cons.mpr ⟨s_iload (by decide +kernel) rfl, ?_⟩
  refine List.forall_mem_cons.mpr ⟨s_lald (by decide +kernel) rfl, ?_⟩
  refine List.forall_mem_cons.mpr ⟨s_last (by decide +kernel) rfl, ?_⟩
  refine List.forall_mem_cons.mpr ⟨s_iinc (by decide +kernel) (by decide) rfl, ?_⟩
  refine List.forall_mem_cons.mpr ⟨s_goto (off := (-32)) (by decide +kernel) (by decide), ?_⟩
  refine List.forall_mem_cons.mpr ⟨s_iload (by decide +kernel) rfl, ?_⟩
  refine List.forall_mem_cons.mpr ⟨s_iret rfl (by decide +kernel), ?_⟩
  exact fun q hq => absurd hq List.not_mem_nil
def T_X9_taken : List (Nat × zO) := [(0, o_iload 1 1), (1, o_calls 1 k_X9_isShelf 4), (4, o_if_eq 19 7), (7, o_iload 8 2), (8, o_i2l 9), (9, o_lconst 10 0), (10, o_lconst 13 (6)), (13, o_calls 3 k_X9_within 16), (16, o_if_ne 21 19), (19, o_const 20 (-1)), (20, o_iret), (21, o_aload 22 0), (22, o_getf 25 9 50), (25, o_iload 26 1), (26, o_iald 27), (27, o_if_ge 33 30), (30, o_const 32 (-11)), (32, o_iret), (33, o_aload 34 0), (34, o_getf 37 9 50), (37, o_iload 38 1), (38, o_iald 39), (39, o_const 41 50), (41, o_icmp_lt 47 44), (44, o_const 46 (-12)), (46, o_iret), (47, o_aload 48 0), (48, o_aload 49 0), (49, o_getf 52 9 50), (52, o_iload 53 1), (53, o_iald 54), (54, o_callv 1 9 k_X9_kindOf 57), (57, o_istore 58 3), (58, o_iload 59 3), (59, o_iload 60 2), (60, o_icmp_eq 75 63), (63, o_iload 64 3), (64, o_if_le 75 67), (67, o_iload 68 3), (68, o_calls 1 k_X9_above 71), (71, o_istore 72 3), (72, o_goto 58), (75, o_iload 76 3), (76, o_iload 77 2), (77, o_icmp_ne 93 80), (80, o_aload 81 0), (81, o_aload 82 0), (82, o_getf 85 9 50), (85, o_iload 86 1), (86, o_iald 87), (87, o_callv 1 9 k_X9_kindOf 90), (90, o_goto 95), (93, o_const 95 (-12)), (95, o_iret)]
set_option maxRecDepth 20000 in
theorem t_X9_taken : ∀ q ∈ T_X9_taken, zS k_X9_taken q.1 q.2 := by
  unfold T_X9_taken
  refine List.forall_mem_cons.mpr ⟨s_iload_n (j := 1) (by decide +kernel) rfl rfl, ?_⟩
  refine List.forall_mem_cons.mpr ⟨s_calls (idx := 300) (k' := k_X9_isShelf) q6_44 q6_42 q6_43 q1_10 de_X9_isShelf (by decide) (by decide +kernel) rfl, ?_⟩
  refine List.forall_mem_cons.mpr ⟨s_if_eq (off := 15) (by decide +kernel) (by decide) rfl, ?_⟩
  refine List.forall_mem_cons.mpr ⟨s_iload_n (j := 2) (by decide +kernel) rfl rfl, ?_⟩
  refine List.forall_mem_cons.mpr ⟨s_i2l (by decide +kernel) rfl, ?_⟩
  refine List.forall_mem_cons.mpr ⟨s_lconst (z := 0) (by decide +kernel) (by decide) rfl, ?_⟩
  refine List.forall_mem_cons.mpr ⟨s_ldc2 (idx := 329) (y := (6)) (by decide +kernel) q6_88 rfl, ?_⟩
  refine List.forall_mem_cons.mpr ⟨s_calls (idx := 5) (k' := k_X9_within) q5_50 q5_48 q5_49 q1_10 de_X9_within (by decide) (by decide +kernel) rfl, ?_⟩
  refine List.forall_mem_cons.mpr ⟨s_if_ne (off := 5) (by decide +kernel) (by decide) rfl, ?_⟩
  refine List.forall_mem_cons.mpr ⟨s_iconst (by decide +kernel) rfl, ?_⟩
  refine List.forall_mem_cons.mpr ⟨s_iret rfl (by decide +kernel), ?_⟩
  refine List.forall_mem_cons.mpr ⟨s_aload_n (j := 0) (by decide +kernel) rfl rfl, ?_⟩
  refine List.forall_mem_cons.mpr ⟨s_getf (idx := 104) (C := RX9) (T := TX9) (N := 54) rfl inX9 (by decide) q4_161 (by decide +kernel) rfl, ?_⟩
  refine List.forall_mem_cons.mpr ⟨s_iload_n (j := 1) (by decide +kernel) rfl rfl, ?_⟩
  refine List.forall_mem_cons.mpr ⟨s_iald (by decide +kernel) rfl, ?_⟩
  refine List.forall_mem_cons.mpr ⟨s_if_ge (off := 6) (by decide +kernel) (by decide) rfl, ?_⟩
  refine List.forall_mem_cons.mpr ⟨s_bipush (by decide +kernel) (by decide) rfl, ?_⟩
  refine List.forall_mem_cons.mpr ⟨s_iret rfl (by decide +kernel), ?_⟩
  refine List.forall_mem_cons.mpr ⟨s_aload_n (j := 0) (by decide +kernel) rfl rfl, ?_⟩
  refine List.forall_mem_cons.mpr ⟨s_getf (idx := 104) (C := RX9) (T := TX9) (N := 54) rfl inX9 (by decide) q4_161 (by decide +kernel) rfl, ?_⟩
  refine List.forall_mem_cons.mpr ⟨s_iload_n (j := 1) (by decide +kernel) rfl rfl, ?_⟩
  refine List.forall_mem_cons.mpr ⟨s_iald (by decide +kernel) rfl, ?_⟩
  refine List.forall_mem_cons.mpr ⟨s_bipush (by decide +kernel) (by decide) rfl, ?_⟩
  refine List.forall_mem_cons.mpr ⟨s_icmp_lt (off := 6) (by decide +kernel) (by decide) rfl, ?_⟩
  refine List.forall_mem_cons.mpr ⟨s_bipush (by decide +kernel) (by decide) rfl, ?_⟩
  refine List.forall_mem_cons.mpr ⟨s_iret rfl (by decide +kernel), ?_⟩
  refine List.forall_mem_cons.mpr ⟨s_aload_n (j := 0) (by decide +kernel) rfl rfl, ?_⟩
  refine List.forall_mem_cons.mpr ⟨s_aload_n (j := 0) (by decide +kernel) rfl rfl, ?_⟩
  refine List.forall_mem_cons.mpr ⟨s_getf (idx := 104) (C := RX9) (T := TX9) (N := 54) rfl inX9 (by decide) q4_161 (by decide +kernel) rfl, ?_⟩
  refine List.forall_mem_cons.mpr ⟨s_iload_n (j := 1) (by decide +kernel) rfl rfl, ?_⟩
  refine List.forall_mem_cons.mpr ⟨s_iald (by decide +kernel) rfl, ?_⟩
  refine List.forall_mem_cons.mpr ⟨s_callv (idx := 372) (k' := k_X9_kindOf) (T := TX9) (N := 54) rfl q6_156 q6_153 q6_155 qs_71 q1_10 de_X9_kindOf (by decide) (by decide +kernel) rfl, ?_⟩
  refine List.forall_mem_cons.mpr ⟨s_istore_n (j := 3) (by decide +kernel) rfl (by decide) rfl, ?_⟩
  refine List.forall_mem_cons.mpr ⟨s_iload_n (j := 3) (by decide +kernel) rfl rfl, ?_⟩
  refine List.forall_mem_cons.mpr ⟨s_iload_n (j := 2) (by decide +kernel) rfl rfl, ?_⟩
  refine List.forall_mem_cons.mpr ⟨s_icmp_eq (off := 15) (by decide +kernel) (by decide) rfl, ?_⟩
  refine List.forall_mem_cons.mpr ⟨s_iload_n (j := 3) (by decide +kernel) rfl rfl, ?_⟩
  refine List.forall_mem_cons.mpr ⟨s_if_le (off := 11) (by decide +kernel) (by decide) rfl, ?_⟩
  refine List.forall_mem_cons.mpr ⟨s_iload_n (j := 3) (by decide +kernel) rfl rfl, ?_⟩
  refine List.forall_mem_cons.mpr ⟨s_calls (idx := 375) (k' := k_X9_above) q6_159 q6_157 q6_158 q1_10 de_X9_above (by decide) (by decide +kernel) rfl, ?_⟩
  refine List.forall_mem_cons.mpr ⟨s_istore_n (j := 3) (by decide +kernel) rfl (by decide) rfl, ?_⟩
  refine List.forall_mem_cons.mpr ⟨s_goto (off := (-14)) (by decide +kernel) (by decide), ?_⟩
  refine List.forall_mem_cons.mpr ⟨s_iload_n (j := 3) (by decide +kernel) rfl rfl, ?_⟩
  refine List.forall_mem_cons.mpr ⟨s_iload_n (j := 2) (by decide +kernel) rfl rfl, ?_⟩
  refine List.forall_mem_cons.mpr ⟨s_icmp_ne (off := 16) (by decide +kernel) (by decide) rfl, ?_⟩
  refine List.forall_mem_cons.mpr ⟨s_aload_n (j := 0) (by decide +kernel) rfl rfl, ?_⟩
  refine List.forall_mem_cons.mpr ⟨s_aload_n (j := 0) (by decide +kernel) rfl rfl, ?_⟩
  refine List.forall_mem_cons.mpr ⟨s_getf (idx := 104) (C := RX9) (T := TX9) (N := 54) rfl inX9 (by decide) q4_161 (by decide +kernel) rfl, ?_⟩
  refine List.forall_mem_cons.mpr ⟨s_iload_n (j := 1) (by decide +kernel) rfl rfl, ?_⟩
  refine List.forall_mem_cons.mpr ⟨s_iald (by decide +kernel) rfl, ?_⟩
  refine List.forall_mem_cons.mpr ⟨s_callv (idx := 372) (k' := k_X9_kindOf) (T := TX9) (N := 54) rfl q6_156 q6_153 q6_155 qs_71 q1_10 de_X9_kindOf (by decide) (by decide +kernel) rfl, ?_⟩
  refine List.forall_mem_cons.mpr ⟨s_goto (off := 5) (by decide +kernel) (by decide), ?_⟩
  refine List.forall_mem_cons.mpr ⟨s_bipush (by decide +kernel) (by decide) rfl, ?_⟩
  refine List.forall_mem_cons.mpr ⟨s_iret rfl (by decide +kernel), ?_⟩
  exact fun q hq => absurd hq List.not_mem_nil
def T_X9_count : List (Nat × zO) := [(0, o_iload 1 1), (1, o_tsw 0 9 [56, 61, 66, 71, 76, 81, 86, 91, 96, 101] 106), (56, o_aload 57 0), (57, o_getf 60 9 8), (60, o_iret), (61, o_aload 62 0), (62, o_getf 65 9 16), (65, o_iret), (66, o_aload 67 0), (67, o_getf 70 9 20), (70, o_iret), (71, o_aload 72 0), (72, o_getf 75 9 21), (75, o_iret), (76, o_aload 77 0), (77, o_getf 80 9 7), (80, o_iret), (81, o_aload 82 0), (82, o_getf 85 9 37), (85, o_iret), (86, o_aload 87 0), (87, o_getf 90 9 42), (90, o_iret), (91, o_aload 92 0), (92, o_getf 95 9 5), (95, o_iret), (96, o_aload 97 0), (97, o_getf 100 9 44), (100, o_iret), (101, o_aload 102 0), (102, o_getf 105 9 47), (105, o_iret), (106, o_const 107 (-1)), (107, o_iret)]
set_option maxRecDepth 20000 in
theorem t_X9_count : ∀ q ∈ T_X9_count, zS k_X9_count q.1 q.2 := by
  unfold T_X9_count
  refine List.forall_mem_cons.mpr ⟨s_iload_n (j := 1) (by decide +kernel) rfl rfl, ?_⟩
  refine List.forall_mem_cons.mpr ⟨s_tsw (dfo := 105) (offs := #[55, 60, 65, 70, 75, 80, 85, 90, 95, 100]) (len := 55) (by decide +kernel) (by decide) (by decide) (by decide), ?_⟩
  refine List.forall_mem_cons.mpr ⟨s_aload_n (j := 0) (by decide +kernel) rfl rfl, ?_⟩
  refine List.forall_mem_cons.mpr ⟨s_getf (idx := 148) (C := RX9) (T := TX9) (N := 54) rfl inX9 (by decide) q4_119 (by decide +kernel) rfl, ?_⟩
  refine List.forall_mem_cons.mpr ⟨s_iret rfl (by decide +kernel), ?_⟩
  refine List.forall_mem_cons.mpr ⟨s_aload_n (j := 0) (by decide +kernel) rfl rfl, ?_⟩
  refine List.forall_mem_cons.mpr ⟨s_getf (idx := 117) (C := RX9) (T := TX9) (N := 54) rfl inX9 (by decide) q4_127 (by decide +kernel) rfl, ?_⟩
  refine List.forall_mem_cons.mpr ⟨s_iret rfl (by decide +kernel), ?_⟩
  refine List.forall_mem_cons.mpr ⟨s_aload_n (j := 0) (by decide +kernel) rfl rfl, ?_⟩
  refine List.forall_mem_cons.mpr ⟨s_getf (idx := 181) (C := RX9) (T := TX9) (N := 54) rfl inX9 (by decide) q4_131 (by decide +kernel) rfl, ?_⟩
  refine List.forall_mem_cons.mpr ⟨s_iret rfl (by decide +kernel), ?_⟩
  refine List.forall_mem_cons.mpr ⟨s_aload_n (j := 0) (by decide +kernel) rfl rfl, ?_⟩
  refine List.forall_mem_cons.mpr ⟨s_getf (idx := 184) (C := RX9) (T := TX9) (N := 54) rfl inX9 (by decide) q4_132 (by decide +kernel) rfl, ?_⟩
  refine List.forall_mem_cons.mpr ⟨s_iret rfl (by decide +kernel), ?_⟩
  refine List.forall_mem_cons.mpr ⟨s_aload_n (j := 0) (by decide +kernel) rfl rfl, ?_⟩
  refine List.forall_mem_cons.mpr ⟨s_getf (idx := 131) (C := RX9) (T := TX9) (N := 54) rfl inX9 (by decide) q4_118 (by decide +kernel) rfl, ?_⟩
  refine List.forall_mem_cons.mpr ⟨s_iret rfl (by decide +kernel), ?_⟩
  refine List.forall_mem_cons.mpr ⟨s_aload_n (j := 0) (by decide +kernel) rfl rfl, ?_⟩
  refine List.forall_mem_cons.mpr ⟨s_getf (idx := 297) (C := RX9) (T := TX9) (N := 54) rfl inX9 (by decide) q4_148 (by decide +kernel) rfl, ?_⟩
  refine List.forall_mem_cons.mpr ⟨s_iret rfl (by decide +kernel), ?_⟩
  refine List.forall_mem_cons.mpr ⟨s_aload_n (j := 0) (by decide +kernel) rfl rfl, ?_⟩
  refine List.forall_mem_cons.mpr ⟨s_getf (idx := 323) (C := RX9) (T := TX9) (N := 54) rfl inX9 (by decide) q4_153 (by decide +kernel) rfl, ?_⟩
  refine List.forall_mem_cons.mpr ⟨s_iret rfl (by decide +kernel), ?_⟩
  refine List.forall_mem_cons.mpr ⟨s_aload_n (j := 0) (by decide +kernel) rfl rfl, ?_⟩
  refine List.forall_mem_cons.mpr ⟨s_getf (idx := 123) (C := RX9) (T := TX9) (N := 54) rfl inX9 (by decide) q4_116 (by decide +kernel) rfl, ?_⟩
  refine List.forall_mem_cons.mpr ⟨s_iret rfl (by decide +kernel), ?_⟩
  refine List.forall_mem_cons.mpr ⟨s_aload_n (j := 0) (by decide +kernel) rfl rfl, ?_⟩
  refine List.forall_mem_cons.mpr ⟨s_getf (idx := 326) (C := RX9) (T := TX9) (N := 54) rfl inX9 (by decide) q4_155 (by decide +kernel) rfl, ?_⟩
  refine List.forall_mem_cons.mpr ⟨s_iret rfl (by decide +kernel), ?_⟩
  refine List.forall_mem_cons.mpr ⟨s_aload_n (j := 0) (by decide +kernel) rfl rfl, ?_⟩
  refine List.forall_mem_cons.mpr ⟨s_getf (idx := 331) (C := RX9) (T := TX9) (N := 54) rfl inX9 (by decide) q4_158 (by decide +kernel) rfl, ?_⟩
  refine List.forall_mem_cons.mpr ⟨s_iret rfl (by decide +kernel), ?_⟩
  refine List.forall_mem_cons.mpr ⟨s_iconst (by decide +kernel) rfl, ?_⟩
  refine List.forall_mem_cons.mpr ⟨s_iret rfl (by decide +kernel), ?_⟩
  exact fun q hq => absurd hq List.not_mem_nil
