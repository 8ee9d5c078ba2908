def T_X8_feed : List (Nat × zO) := [(0, o_iload 1 1), (1, o_const 2 1), (2, o_icmp_lt 10 5), (5, o_iload 6 1), (6, o_const 7 4), (7, o_icmp_le 12 10), (10, o_const 11 (-1)), (11, o_iret), (12, o_aload 13 0), (13, o_getf 16 8 0), (16, o_iload 17 1), (17, o_iload 18 2), (18, o_callv 2 7 k_X7_add 21), (21, o_if_eq 34 24), (24, o_aload 25 0), (25, o_getf 28 8 0), (28, o_getf 31 7 1), (31, o_goto 36), (34, o_const 36 (-3)), (36, o_iret)]
set_option maxRecDepth 20000 in
theorem t_X8_feed : ∀ q ∈ T_X8_feed, zS k_X8_feed q.1 q.2 := by
  unfold T_X8_feed
  refine List.forall_mem_cons.mpr ⟨s_iload_n (j := 1) (by decide +kernel) rfl rfl, ?_⟩
  refine List.forall_mem_cons.mpr ⟨s_iconst (by decide +kernel) rfl, ?_⟩
  refine List.forall_mem_cons.mpr ⟨s_icmp_lt (off := 8) (by decide +kernel) (by decide) rfl, ?_⟩
  refine List.forall_mem_cons.mpr ⟨s_iload_n (j := 1) (by decide +kernel) rfl rfl, ?_⟩
  refine List.forall_mem_cons.mpr ⟨s_iconst (by decide +kernel) rfl, ?_⟩
  refine List.forall_mem_cons.mpr ⟨s_icmp_le (off := 5) (by decide +kernel) (by decide) rfl, ?_⟩
  refine List.forall_mem_cons.mpr ⟨s_iconst (by decide +kernel) rfl, ?_⟩
  refine List.forall_mem_cons.mpr ⟨s_iret rfl (by decide +kernel), ?_⟩
  refine List.forall_mem_cons.mpr ⟨s_aload_n (j := 0) (by decide +kernel) rfl rfl, ?_⟩
  refine List.forall_mem_cons.mpr ⟨s_getf (idx := 10) (C := RX8) (T := TX8) (N := 10) rfl inX8 (by decide) q2_69 (by decide +kernel) rfl, ?_⟩
  refine List.forall_mem_cons.mpr ⟨s_iload_n (j := 1) (by decide +kernel) rfl rfl, ?_⟩
  refine List.forall_mem_cons.mpr ⟨s_iload_n (j := 2) (by decide +kernel) rfl rfl, ?_⟩
  refine List.forall_mem_cons.mpr ⟨s_callv (idx := 73) (k' := k_X7_add) (T := TX7) (N := 6) rfl q2_107 q2_104 q2_105 q2_106 q1_2 de_X7_add (by decide) (by decide +kernel) rfl, ?_⟩
  refine List.forall_mem_cons.mpr ⟨s_if_eq (off := 13) (by decide +kernel) (by decide) rfl, ?_⟩
  refine List.forall_mem_cons.mpr ⟨s_aload_n (j := 0) (by decide +kernel) rfl rfl, ?_⟩
  refine List.forall_mem_cons.mpr ⟨s_getf (idx := 10) (C := RX8) (T := TX8) (N := 10) rfl inX8 (by decide) q2_69 (by decide +kernel) rfl, ?_⟩
  refine List.forall_mem_cons.mpr ⟨s_getf (idx := 77) (C := RX7) (T := TX7) (N := 6) rfl inX7 (by decide) q1_30 (by decide +kernel) rfl, ?_⟩
  refine List.forall_mem_cons.mpr ⟨s_goto (off := 5) (by decide +kernel) (by decide), ?_⟩
  refine List.forall_mem_cons.mpr ⟨s_bipush (by decide +kernel) (by decide) rfl, ?_⟩
  refine List.forall_mem_cons.mpr ⟨s_iret rfl (by decide +kernel), ?_⟩
  exact fun q hq => absurd hq List.not_mem_nil
def T_X8_tide : List (Nat × zO) := [(0, o_aload 1 0), (1, o_getf 4 8 1), (4, o_getf 7 2 0), (7, o_const 9 10), (9, o_icmp_lt 15 12), (12, o_const 14 (-3)), (14, o_iret), (15, o_aload 16 0), (16, o_getf 19 8 0), (19, o_callv 0 7 k_X7_read 22), (22, o_istore 23 1), (23, o_aload 24 0), (24, o_getf 27 8 0), (27, o_const 28 0), (28, o_putf 31 7 1), (31, o_iload 32 1), (32, o_if_lt 40 35), (35, o_const 37 (-100)), (37, o_iload 38 1), (38, o_isub 39), (39, o_iret), (40, o_aload 41 0), (41, o_getf 44 8 1), (44, o_aload 45 0), (45, o_getf 48 8 0), (48, o_getf 51 7 2), (51, o_aload 52 0), (52, o_getf 55 8 0), (55, o_getf 58 7 3), (58, o_aload 59 0), (59, o_getf 62 8 0), (62, o_getf 65 7 4), (65, o_callv 3 2 k_X2_addTide 68), (68, o_iret)]
set_option maxRecDepth 20000 in
theorem t_X8_tide : ∀ q ∈ T_X8_tide, zS k_X8_tide q.1 q.2 := by
  unfold T_X8_tide
  refine List.forall_mem_cons.mpr ⟨s_aload_n (j := 0) (by decide +kernel) rfl rfl, ?_⟩
  refine List.forall_mem_cons.mpr ⟨s_getf (idx := 19) (C := RX8) (T := TX8) (N := 10) rfl inX8 (by decide) q2_70 (by decide +kernel) rfl, ?_⟩
  refine List.forall_mem_cons.mpr ⟨s_getf (idx := 81) (C := RX2) (T := TX2) (N := 20) rfl inX2 (by decide) q1_59 (by decide +kernel) rfl, ?_⟩
  refine List.forall_mem_cons.mpr ⟨s_bipush (by decide +kernel) (by decide) rfl, ?_⟩
  refine List.forall_mem_cons.mpr ⟨s_icmp_lt (off := 6) (by decide +kernel) (by decide) rfl, ?_⟩
  refine List.forall_mem_cons.mpr ⟨s_bipush (by decide +kernel) (by decide) rfl, ?_⟩
  refine List.forall_mem_cons.mpr ⟨s_iret rfl (by decide +kernel), ?_⟩
  refine List.forall_mem_cons.mpr ⟨s_aload_n (j := 0) (by decide +kernel) rfl rfl, ?_⟩
  refine List.forall_mem_cons.mpr ⟨s_getf (idx := 10) (C := RX8) (T := TX8) (N := 10) rfl inX8 (by decide) q2_69 (by decide +kernel) rfl, ?_⟩
  refine List.forall_mem_cons.mpr ⟨s_callv (idx := 84) (k' := k_X7_read) (T := TX7) (N := 6) rfl q2_115 q2_112 q2_113 q2_114 q1_2 de_X7_read (by decide) (by decide +kernel) rfl, ?_⟩
  refine List.forall_mem_cons.mpr ⟨s_istore_n (j := 1) (by decide +kernel) rfl (by decide) rfl, ?_⟩
  refine List.forall_mem_cons.mpr ⟨s_aload_n (j := 0) (by decide +kernel) rfl rfl, ?_⟩
  refine List.forall_mem_cons.mpr ⟨s_getf (idx := 10) (C := RX8) (T := TX8) (N := 10) rfl inX8 (by decide) q2_69 (by decide +kernel) rfl, ?_⟩
  refine List.forall_mem_cons.mpr ⟨s_iconst (by decide +kernel) rfl, ?_⟩
  refine List.forall_mem_cons.mpr ⟨s_putf (idx := 77) (C := RX7) (T := TX7) (N := 6) rfl inX7 tyX7_ok nmX7 (by decide) rfl (tyX7_ok 1 (by decide)) (Or.inl ⟨rfl, kdI 7 1 (by decide)⟩) q1_30 (by decide +kernel) rfl, ?_⟩
  refine List.forall_mem_cons.mpr ⟨s_iload_n (j := 1) (by decide +kernel) rfl rfl, ?_⟩
  refine List.forall_mem_cons.mpr ⟨s_if_lt (off := 8) (by decide +kernel) (by decide) rfl, ?_⟩
  refine List.forall_mem_cons.mpr ⟨s_bipush (by decide +kernel) (by decide) rfl, ?_⟩
  refine List.forall_mem_cons.mpr ⟨s_iload_n (j := 1) (by decide +kernel) rfl rfl, ?_⟩
  refine List.forall_mem_cons.mpr ⟨s_isub (by decide +kernel) rfl, ?_⟩
  refine List.forall_mem_cons.mpr ⟨s_iret rfl (by decide +kernel), ?_⟩
  refine List.forall_mem_cons.mpr ⟨s_aload_n (j := 0) (by decide +kernel) rfl rfl, ?_⟩
  refine List.forall_mem_cons.mpr ⟨s_getf (idx := 19) (C := RX8) (T := TX8) (N := 10) rfl inX8 (by decide) q2_70 (by decide +kernel) rfl, ?_⟩
  refine List.forall_mem_cons.mpr ⟨s_aload_n (j := 0) (by decide +kernel) rfl rfl, ?_⟩
  refine List.forall_mem_cons.mpr ⟨s_getf (idx := 10) (C := RX8) (T := TX8) (N := 10) rfl inX8 (by decide) q2_69 (by decide +kernel) rfl, ?_⟩
  refine List.forall_mem_cons.mpr ⟨s_getf (idx := 88) (C := RX7) (T := TX7) (N := 6) rfl inX7 (by decide) q1_32 (by decide +kernel) rfl, ?_⟩
  refine List.forall_mem_cons.mpr ⟨s_aload_n (j := 0) (by decide +kernel) rfl rfl, ?_⟩
  refine List.forall_mem_cons.mpr ⟨s_getf (idx := 10) (C := RX8) (T := TX8) (N := 10) rfl inX8 (by decide) q2_69 (by decide +kernel) rfl, ?_⟩
  refine List.forall_mem_cons.mpr ⟨s_getf (idx := 91) (C := RX7) (T := TX7) (N := 6) rfl inX7 (by decide) q1_34 (by decide +kernel) rfl, ?_⟩
  refine List.forall_mem_cons.mpr ⟨s_aload_n (j := 0) (by decide +kernel) rfl rfl, ?_⟩
  refine List.forall_mem_cons.mpr ⟨s_getf (idx := 10) (C := RX8) (T := TX8) (N := 10) rfl inX8 (by decide) q2_69 (by decide +kernel) rfl, ?_⟩
  refine List.forall_mem_cons.mpr ⟨s_getf (idx := 94) (C := RX7) (T := TX7) (N := 6) rfl inX7 (by decide) q1_36 (by decide +kernel) rfl, ?_⟩
  refine List.forall_mem_cons.mpr ⟨s_callv (idx := 97) (k' := k_X2_addTide) (T := TX2) (N := 20) rfl q2_135 q2_132 q2_133 q2_134 q1_3 de_X2_addTide (by decide) (by decide +kernel) rfl, ?_⟩
  refine List.forall_mem_cons.mpr ⟨s_iret rfl (by decide +kernel), ?_⟩
  exact fun q hq => absurd hq List.not_mem_nil
def T_X8_wind : List (Nat × zO) := [(0, o_iload 1 1), (1, o_const 3 (-99)), (3, o_const 5 99), (5, o_calls 3 k_X8_within 8), (8, o_if_eq 32 11), (11, o_iload 12 2), (12, o_const 14 (-60)), (14, o_const 16 60), (16, o_calls 3 k_X8_within 19), (19, o_if_eq 32 22), (22, o_iload 23 3), (23, o_const 24 1), (24, o_const 26 99), (26, o_calls 3 k_X8_within 29), (29, o_if_ne 34 32), (32, o_const 33 (-1)), (33, o_iret), (34, o_aload 35 0), (35, o_getf 38 8 1), (38, o_getf 41 2 4), (41, o_const 42 5), (42, o_icmp_lt 50 45), (45, o_const 47 (-3)), (47, o_goto 60), (50, o_aload 51 0), (51, o_getf 54 8 1), (54, o_iload 55 1), (55, o_iload 56 2), (56, o_iload 57 3), (57, o_callv 3 2 k_X2_addWind 60), (60, o_iret)]
set_option maxRecDepth 20000 in
theorem t_X8_wind : ∀ q ∈ T_X8_wind, zS k_X8_wind q.1 q.2 := by
  unfold T_X8_wind
  refine List.forall_mem_cons.mpr ⟨s_iload_n (j := 1) (by decide +kernel) rfl rfl, ?_⟩
  refine List.forall_mem_cons.mpr ⟨s_bipush (by decide +kernel) (by decide) rfl, ?_⟩
  refine List.forall_mem_cons.mpr ⟨s_bipush (by decide +kernel) (by decide) rfl, ?_⟩
  refine List.forall_mem_cons.mpr ⟨s_calls (idx := 101) (k' := k_X8_within) q2_145 q2_143 q2_144 q1_1 de_X8_within (by decide) (by decide +kernel) rfl, ?_⟩
  refine List.forall_mem_cons.mpr ⟨s_if_eq (off := 24) (by decide +kernel) (by decide) rfl, ?_⟩
  refine List.forall_mem_cons.mpr ⟨s_iload_n (j := 2) (by decide +kernel) rfl rfl, ?_⟩
  refine List.forall_mem_cons.mpr ⟨s_bipush (by decide +kernel) (by decide) rfl, ?_⟩
  refine List.forall_mem_cons.mpr ⟨s_bipush (by decide +kernel) (by decide) rfl, ?_⟩
  refine List.forall_mem_cons.mpr ⟨s_calls (idx := 101) (k' := k_X8_within) q2_145 q2_143 q2_144 q1_1 de_X8_within (by decide) (by decide +kernel) rfl, ?_⟩
  refine List.forall_mem_cons.mpr ⟨s_if_eq (off := 13) (by decide +kernel) (by decide) rfl, ?_⟩
  refine List.forall_mem_cons.mpr ⟨s_iload_n (j := 3) (by decide +kernel) rfl rfl, ?_⟩
  refine List.forall_mem_cons.mpr ⟨s_iconst (by decide +kernel) rfl, ?_⟩
  refine List.forall_mem_cons.mpr ⟨s_bipush (by decide +kernel) (by decide) rfl, ?_⟩
  refine List.forall_mem_cons.mpr ⟨s_calls (idx := 101) (k' := k_X8_within) q2_145 q2_143 q2_144 q1_1 de_X8_within (by decide) (by decide +kernel) rfl, ?_⟩
  refine List.forall_mem_cons.mpr ⟨s_if_ne (off := 5) (by decide +kernel) (by decide) rfl, ?_⟩
  refine List.forall_mem_cons.mpr ⟨s_iconst (by decide +kernel) rfl, ?_⟩
  refine List.forall_mem_cons.mpr ⟨s_iret rfl (by decide +kernel), ?_⟩
  refine List.forall_mem_cons.mpr ⟨s_aload_n (j := 0) (by decide +kernel) rfl rfl, ?_⟩
  refine List.forall_mem_cons.mpr ⟨s_getf (idx := 19) (C := RX8) (T := TX8) (N := 10) rfl inX8 (by decide) q2_70 (by decide +kernel) rfl, ?_⟩
  refine List.forall_mem_cons.mpr ⟨s_getf (idx := 105) (C := RX2) (T := TX2) (N := 20) rfl inX2 (by decide) q1_65 (by decide +kernel) rfl, ?_⟩
  refine List.forall_mem_cons.mpr ⟨s_iconst (by decide +kernel) rfl, ?_⟩
  refine List.forall_mem_cons.mpr ⟨s_icmp_lt (off := 8) (by decide +kernel) (by decide) rfl, ?_⟩
  refine List.forall_mem_cons.mpr ⟨s_bipush (by decide +kernel) (by decide) rfl, ?_⟩
  refine List.forall_mem_cons.mpr ⟨s_goto (off := 13) (by decide +kernel) (by decide), ?_⟩
  refine List.forall_mem_cons.mpr ⟨s_aload_n (j := 0) (by decide +kernel) rfl rfl, ?_⟩
  refine List.forall_mem_cons.mpr ⟨s_getf (idx := 19) (C := RX8) (T := TX8) (N := 10) rfl inX8 (by decide) q2_70 (by decide +kernel) rfl, ?_⟩
  refine List.forall_mem_cons.mpr ⟨s_iload_n (j := 1) (by decide +kernel) rfl rfl, ?_⟩
  refine List.forall_mem_cons.mpr ⟨s_iload_n (j := 2) (by decide +kernel) rfl rfl, ?_⟩
  refine List.forall_mem_cons.mpr ⟨s_iload_n (j := 3) (by decide +kernel) rfl rfl, ?_⟩
  refine List.forall_mem_cons.mpr ⟨s_callv (idx := 108) (k' := k_X2_addWind) (T := TX2) (N := 20) rfl q2_149 q2_146 q2_147 q2_148 q1_3 de_X2_addWind (by decide) (by decide +kernel) rfl, ?_⟩
  refine List.forall_mem_cons.mpr ⟨s_iret rfl (by decide +kernel), ?_⟩
  exact fun q hq => absurd hq List.not_mem_nil
def T_X8_sea : List (Nat × zO) := [(0, o_iload 1 1), (1, o_const 2 0), (2, o_aload 3 0), (3, o_getf 6 8 1), (6, o_getf 9 2 0), (9, o_const 10 1), (10, o_isub 11), (11, o_calls 3 k_X8_within 14), (14, o_if_eq 41 17), (17, o_iload 18 2), (18, o_const 19 0), (19, o_aload 20 0), (20, o_getf 23 8 1), (23, o_getf 26 2 4), (26, o_const 27 1), (27, o_isub 28), (28, o_calls 3 k_X8_within 31), (31, o_if_eq 41 34), (34, o_iload 35 3), (35, o_calls 1 k_X8_isMinute 38), (38, o_if_ne 44 41), (41, o_const 43 (-2000000000)), (43, o_iret), (44, o_aload 45 0), (45, o_getf 48 8 1), (48, o_iload 49 1), (49, o_iload 50 2), (50, o_iload 51 3), (51, o_callv 3 2 k_X2_seaAt 54), (54, o_iret)]
set_option maxRecDepth 20000 in
theorem t_X8_sea : ∀ q ∈ T_X8_sea, zS k_X8_sea q.1 q.2 := by
  unfold T_X8_sea
  refine List.forall_mem_cons.mpr ⟨s_iload_n (j := 1) (by decide +kernel) rfl rfl, ?_⟩
  refine List.forall_mem_cons.mpr ⟨s_iconst (by decide +kernel) rfl, ?_⟩
  refine List.forall_mem_cons.mpr ⟨s_aload_n (j := 0) (by decide +kernel) rfl rfl, ?_⟩
  refine List.forall_mem_cons.mpr ⟨s_getf (idx := 19) (C := RX8) (T := TX8) (N := 10) rfl inX8 (by decide) q2_70 (by decide +kernel) rfl, ?_⟩
  refine List.forall_mem_cons.mpr ⟨s_getf (idx := 81) (C := RX2) (T := TX2) (N := 20) rfl inX2 (by decide) q1_59 (by decide +kernel) rfl, ?_⟩
  refine List.forall_mem_cons.mpr ⟨s_iconst (by decide +kernel) rfl, ?_⟩
  refine List.forall_mem_cons.mpr ⟨s_isub (by decide +kernel) rfl, ?_⟩
  refine List.forall_mem_cons.mpr ⟨s_calls (idx := 101) (k' := k_X8_within) q2_145 q2_143 q2_144 q1_1 de_X8_within (by decide) (by decide +kernel) rfl, ?_⟩
  refine List.forall_mem_cons.mpr ⟨s_if_eq (off := 27) (by decide +kernel) (by decide) rfl, ?_⟩
  refine List.forall_mem_cons.mpr ⟨s_iload_n (j := 2) (by decide +kernel) rfl rfl, ?_⟩
  refine List.forall_mem_cons.mpr ⟨s_iconst (by decide +kernel) rfl, ?_⟩
  refine List.forall_mem_cons.mpr ⟨s_aload_n (j := 0) (by decide +kernel) rfl rfl, ?_⟩
  refine List.forall_mem_cons.mpr ⟨s_getf (idx := 19) (C := RX8) (T := TX8) (N := 10) rfl inX8 (by decide) q2_70 (by decide +kernel) rfl, ?_⟩
  refine List.forall_mem_cons.mpr ⟨s_getf (idx := 105) (C := RX2) (T := TX2) (N := 20) rfl inX2 (by decide) q1_65 (by decide +kernel) rfl, ?_⟩
  refine List.forall_mem_cons.mpr ⟨s_iconst (by decide +kernel) rfl, ?_⟩
  refine List.forall_mem_cons.mpr ⟨s_isub (by decide +kernel) rfl, ?_⟩
  refine List.forall_mem_cons.mpr ⟨s_calls (idx := 101) (k' := k_X8_within) q2_145 q2_143 q2_144 q1_1 de_X8_within (by decide) (by decide +kernel) rfl, ?_⟩
  refine List.forall_mem_cons.mpr ⟨s_if_eq (off := 10) (by decide +kernel) (by decide) rfl, ?_⟩
  refine List.forall_mem_cons.mpr ⟨s_iload_n (j := 3) (by decide +kernel) rfl rfl, ?_⟩
  refine List.forall_mem_cons.mpr ⟨s_calls (idx := 112) (k' := k_X8_isMinute) q2_156 q2_154 q2_155 q1_1 de_X8_isMinute (by decide) (by decide +kernel) rfl, ?_⟩
  refine List.forall_mem_cons.mpr ⟨s_if_ne (off := 6) (by decide +kernel) (by decide) rfl, ?_⟩
  refine List.forall_mem_cons.mpr ⟨s_ldc (idx := 116) (v := (-2000000000)) (by decide +kernel) q2_157 (by decide) rfl, ?_⟩
  refine List.forall_mem_cons.mpr ⟨s_iret rfl (by decide +kernel), ?_⟩
  refine List.forall_mem_cons.mpr ⟨s_aload_n (j := 0) (by decide +kernel) rfl rfl, ?_⟩
  refine List.forall_mem_cons.mpr ⟨s_getf (idx := 19) (C := RX8) (T := TX8) (N := 10) rfl inX8 (by decide) q2_70 (by decide +kernel) rfl, ?_⟩
  refine List.forall_mem_cons.mpr ⟨s_iload_n (j := 1) (by decide +kernel) rfl rfl, ?_⟩
  refine List.forall_mem_cons.mpr ⟨s_iload_n (j := 2) (by decide +kernel) rfl rfl, ?_⟩
  refine List.forall_mem_cons.mpr ⟨s_iload_n (j := 3) (by decide +kernel) rfl rfl, ?_⟩
  refine List.forall_mem_cons.mpr ⟨s_callv (idx := 117) (k' := k_X2_seaAt) (T := TX2) (N := 20) rfl q2_161 q2_158 q2_159 q2_160 q1_3 de_X2_seaAt (by decide) (by decide +kernel) rfl, ?_⟩
  refine List.forall_mem_cons.mpr ⟨s_iret rfl (by decide +kernel), ?_⟩
  exact fun q hq => absurd hq List.not_mem_nil
def T_X8_place : List (Nat × zO) := [(0, o_iload 1 1), (1, o_const 2 0), (2, o_const 5 999), (5, o_calls 3 k_X8_within 8), (8, o_if_ne 13 11), (11, o_const 12 (-1)), (12, o_iret), (13, o_aload 14 0), (14, o_getf 17 8 1), (17, o_getf 20 2 8), (20, o_const 22 12), (22, o_icmp_lt 28 25), (25, o_const 27 (-3)), (27, o_iret), (28, o_aload 29 0), (29, o_getf 32 8 1), (32, o_getf 35 2 9), (35, o_aload 36 0), (36, o_getf 39 8 1), (39, o_getf 42 2 8), (42, o_iload 43 1), (43, o_iast 44), (44, o_aload 45 0), (45, o_getf 48 8 1), (48, o_dup 49), (49, o_getf 52 2 8), (52, o_const 53 1), (53, o_iadd 54), (54, o_putf 57 2 8), (57, o_aload 58 0), (58, o_getf 61 8 1), (61, o_getf 64 2 8), (64, o_const 65 1), (65, o_isub 66), (66, o_iret)]
set_option maxRecDepth 20000 in
theorem t_X8_place : ∀ q ∈ T_X8_place, zS k_X8_place q.1 q.2 := by
  unfold T_X8_place
  refine List.forall_mem_cons.mpr ⟨s_iload_n (j := 1) (by decide +kernel) rfl rfl, ?_⟩
  refine List.forall_mem_cons.mpr ⟨s_iconst (by decide +kernel) rfl, ?_⟩
  refine List.forall_mem_cons.mpr ⟨s_sipush (by decide +kernel) (by decide) rfl, ?_⟩
  refine List.forall_mem_cons.mpr ⟨s_calls (idx := 101) (k' := k_X8_within) q2_145 q2_143 q2_144 q1_1 de_X8_within (by decide) (by decide +kernel) rfl, ?_⟩
  refine List.forall_mem_cons.mpr ⟨s_if_ne (off := 5) (by decide +kernel) (by decide) rfl, ?_⟩
  refine List.forall_mem_cons.mpr ⟨s_iconst (by decide +kernel) rfl, ?_⟩
  refine List.forall_mem_cons.mpr ⟨s_iret rfl (by decide +kernel), ?_⟩
  refine List.forall_mem_cons.mpr ⟨s_aload_n (j := 0) (by decide +kernel) rfl rfl, ?_⟩
  refine List.forall_mem_cons.mpr ⟨s_getf (idx := 19) (C := RX8) (T := TX8) (N := 10) rfl inX8 (by decide) q2_70 (by decide +kernel) rfl, ?_⟩
  refine List.forall_mem_cons.mpr ⟨s_getf (idx := 120) (C := RX2) (T := TX2) (N := 20) rfl inX2 (by decide) q1_71 (by decide +kernel) rfl, ?_⟩
  refine List.forall_mem_cons.mpr ⟨s_bipush (by decide +kernel) (by decide) rfl, ?_⟩
  refine List.forall_mem_cons.mpr ⟨s_icmp_lt (off := 6) (by decide +kernel) (by decide) rfl, ?_⟩
  refine List.forall_mem_cons.mpr ⟨s_bipush (by decide +kernel) (by decide) rfl, ?_⟩
  refine List.forall_mem_cons.mpr ⟨s_iret rfl (by decide +kernel), ?_⟩
  refine List.forall_mem_cons.mpr ⟨s_aload_n (j := 0) (by decide +kernel) rfl rfl, ?_⟩
  refine List.forall_mem_cons.mpr ⟨s_getf (idx := 19) (C := RX8) (T := TX8) (N := 10) rfl inX8 (by decide) q2_70 (by decide +kernel) rfl, ?_⟩
  refine List.forall_mem_cons.mpr ⟨s_getf (idx := 123) (C := RX2) (T := TX2) (N := 20) rfl inX2 (by decide) q1_75 (by decide +kernel) rfl, ?_⟩
  refine List.forall_mem_cons.mpr ⟨s_aload_n (j := 0) (by decide +kernel) rfl rfl, ?_⟩
  refine List.forall_mem_cons.mpr ⟨s_getf (idx := 19) (C := RX8) (T := TX8) (N := 10) rfl inX8 (by decide) q2_70 (by decide +kernel) rfl, ?_⟩
  refine List.forall_mem_cons.mpr ⟨s_getf (idx := 120) (C := RX2) (T := TX2) (N := 20) rfl inX2 (by decide) q1_71 (by decide +kernel) rfl, ?_⟩
  refine List.forall_mem_cons.mpr ⟨s_iload_n (j := 1) (by decide +kernel) rfl rfl, ?_⟩
  refine List.forall_mem_cons.mpr ⟨s_iast (by decide +kernel) rfl, ?_⟩
  refine List.forall_mem_cons.mpr ⟨s_aload_n (j := 0) (by decide +kernel) rfl rfl, ?_⟩
  refine List.forall_mem_cons.mpr ⟨s_getf (idx := 19) (C := RX8) (T := TX8) (N := 10) rfl inX8 (by decide) q2_70 (by decide +kernel) rfl, ?_⟩
  refine List.forall_mem_cons.mpr ⟨s_dup (by decide +kernel) rfl, ?_⟩
  refine List.forall_mem_cons.mpr ⟨s_getf (idx := 120) (C := RX2) (T := TX2) (N := 20) rfl inX2 (by decide) q1_71 (by decide +kernel) rfl, ?_⟩
  refine List.forall_mem_cons.mpr ⟨s_iconst (by decide +kernel) rfl, ?_⟩
  refine List.forall_mem_cons.mpr ⟨s_iadd (by decide +kernel) rfl, ?_⟩
  refine List.forall_mem_cons.mpr ⟨s_putf (idx := 120) (C := RX2) (T := TX2) (N := 20) rfl inX2 tyX2_ok nmX2 (by decide) rfl (tyX2_ok 8 (by decide)) (Or.inl ⟨rfl, kdI 2 8 (by decide)⟩) q1_71 (by decide +kernel) rfl, ?_⟩
  refine List.forall_mem_cons.mpr ⟨s_aload_n (j := 0) (by decide +kernel) rfl rfl, ?_⟩
  refine List.forall_mem_cons.mpr ⟨s_getf (idx := 19) (C := RX8) (T := TX8) (N := 10) rfl inX8 (by decide) q2_70 (by decide +kernel) rfl, ?_⟩
  refine List.forall_mem_cons.mpr ⟨s_getf (idx := 120) (C := RX2) (T := TX2) (N := 20) rfl inX2 (by decide) q1_71 (by decide +kernel) rfl, ?_⟩
  refine List.forall_mem_cons.mpr ⟨s_iconst (by decide +kernel) rfl, ?_⟩
  refine List.forall_mem_cons.mpr ⟨s_isub (by decide +kernel) rfl, ?_⟩
  refine List.forall_mem_cons.mpr ⟨s_iret rfl (by decide +kernel), ?_⟩
  exact fun q hq => absurd hq List.not_mem_nil
def T_X8_way : List (Nat × zO) := [(0, o_aload 1 0), (1, o_iload 2 1), (2, o_callv 1 8 k_X8_isPair 5), (5, o_if_eq 26 8), (8, o_iload 9 2), (9, o_if_lt 26 12), (12, o_iload 13 2), (13, o_const 16 1000), (16, o_idiv 17), (17, o_const 18 1), (18, o_const 20 90), (20, o_calls 3 k_X8_within 23), (23, o_if_ne 28 26), (26, o_const 27 (-1)), (27, o_iret), (28, o_aload 29 0), (29, o_getf 32 8 1), (32, o_getf 35 2 10), (35, o_const 37 24), (37, o_icmp_lt 45 40), (40, o_const 42 (-3)), (42, o_goto 70), (45, o_aload 46 0), (46, o_getf 49 8 1), (49, o_iload 50 1), (50, o_const 52 100), (52, o_idiv 53), (53, o_iload 54 1), (54, o_const 56 100), (56, o_irem 57), (57, o_iload 58 2), (58, o_const 61 1000), (61, o_idiv 62), (62, o_iload 63 2), (63, o_const 66 1000), (66, o_irem 67), (67, o_callv 4 2 k_X2_addWay 70), (70, o_iret)]
set_option maxRecDepth 20000 in
theorem t_X8_way : ∀ q ∈ T_X8_way, zS k_X8_way q.1 q.2 := by
  unfold T_X8_way
  refine List.forall_mem_cons.mpr ⟨s_aload_n (j := 0) (by decide +kernel) rfl rfl, ?_⟩
  refine List.forall_mem_cons.mpr ⟨s_iload_n (j := 1) (by decide +kernel) rfl rfl, ?_⟩
  refine List.forall_mem_cons.mpr ⟨s_callv (idx := 126) (k' := k_X8_isPair) (T := TX8) (N := 10) rfl q2_183 q2_180 q2_182 qs_4 q1_1 de_X8_isPair (by decide) (by decide +kernel) rfl, ?_⟩
  refine List.forall_mem_cons.mpr ⟨s_if_eq (off := 21) (by decide +kernel) (by decide) rfl, ?_⟩
  refine List.forall_mem_cons.mpr ⟨s_iload_n (j := 2) (by decide +kernel) rfl rfl, ?_⟩
  refine List.forall_mem_cons.mpr ⟨s_if_lt (off := 17) (by decide +kernel) (by decide) rfl, ?_⟩
  refine List.forall_mem_cons.mpr ⟨s_iload_n (j := 2) (by decide +kernel) rfl rfl, ?_⟩
  refine List.forall_mem_cons.mpr ⟨s_sipush (by decide +kernel) (by decide) rfl, ?_⟩
  refine List.forall_mem_cons.mpr ⟨s_idiv (by decide +kernel) rfl, ?_⟩
  refine List.forall_mem_cons.mpr ⟨s_iconst (by decide +kernel) rfl, ?_⟩
  refine List.forall_mem_cons.mpr ⟨s_bipush (by decide +kernel) (by decide) rfl, ?_⟩
  refine List.forall_mem_cons.mpr ⟨s_calls (idx := 101) (k' := k_X8_within) q2_145 q2_143 q2_144 q1_1 de_X8_within (by decide) (by decide +kernel) rfl, ?_⟩
  refine List.forall_mem_cons.mpr ⟨s_if_ne (off := 5) (by decide +kernel) (by decide) rfl, ?_⟩
  refine List.forall_mem_cons.mpr ⟨s_iconst (by decide +kernel) rfl, ?_⟩
  refine List.forall_mem_cons.mpr ⟨s_iret rfl (by decide +kernel), ?_⟩
  refine List.forall_mem_cons.mpr ⟨s_aload_n (j := 0) (by decide +kernel) rfl rfl, ?_⟩
  refine List.forall_mem_cons.mpr ⟨s_getf (idx := 19) (C := RX8) (T := TX8) (N := 10) rfl inX8 (by decide) q2_70 (by decide +kernel) rfl, ?_⟩
  refine List.forall_mem_cons.mpr ⟨s_getf (idx := 129) (C := RX2) (T := TX2) (N := 20) rfl inX2 (by decide) q1_79 (by decide +kernel) rfl, ?_⟩
  refine List.forall_mem_cons.mpr ⟨s_bipush (by decide +kernel) (by decide) rfl, ?_⟩
  refine List.forall_mem_cons.mpr ⟨s_icmp_lt (off := 8) (by decide +kernel) (by decide) rfl, ?_⟩
  refine List.forall_mem_cons.mpr ⟨s_bipush (by decide +kernel) (by decide) rfl, ?_⟩
  refine List.forall_mem_cons.mpr ⟨s_goto (off := 28) (by decide +kernel) (by decide), ?_⟩
  refine List.forall_mem_cons.mpr ⟨s_aload_n (j := 0) (by decide +kernel) rfl rfl, ?_⟩
  refine List.forall_mem_cons.mpr ⟨s_getf (idx := 19) (C := RX8) (T := TX8) (N := 10) rfl inX8 (by decide) q2_70 (by decide +kernel) rfl, ?_⟩
  refine List.forall_mem_cons.mpr ⟨s_iload_n (j := 1) (by decide +kernel) rfl rfl, ?_⟩
  refine List.forall_mem_cons.mpr ⟨s_bipush (by decide +kernel) (by decide) rfl, ?_⟩
  refine List.forall_mem_cons.mpr ⟨s_idiv (by decide +kernel) rfl, ?_⟩
  refine List.forall_mem_cons.mpr ⟨s_iload_n (j := 1) (by decide +kernel) rfl rfl, ?_⟩
  refine List.forall_mem_cons.mpr ⟨s_bipush (by decide +kernel) (by decide) rfl, ?_⟩
  refine List.forall_mem_cons.mpr ⟨s_irem (by decide +kernel) rfl, ?_⟩
  refine List.forall_mem_cons.mpr ⟨s_iload_n (j := 2) (by decide +kernel) rfl rfl, ?_⟩
  refine List.forall_mem_cons.mpr ⟨s_sipush (by decide +kernel) (by decide) rfl, ?_⟩
  refine List.forall_mem_cons.mpr ⟨s_idiv (by decide +kernel) rfl, ?_⟩
  refine List.forall_mem_cons.mpr ⟨s_iload_n (j := 2) (by decide +kernel) rfl rfl, ?_⟩
  refine List.forall_mem_cons.mpr ⟨s_sipush (by decide +kernel) (by decide) rfl, ?_⟩
  refine List.forall_mem_cons.mpr ⟨s_irem (by decide +kernel) rfl, ?_⟩
  refine List.forall_mem_cons.mpr ⟨s_callv (idx := 132) (k' := k_X2_addWay) (T := TX2) (N := 20) rfl q2_191 q2_188 q2_189 q2_190 q1_3 de_X2_addWay (by decide) (by decide +kernel) rfl, ?_⟩
  refine List.forall_mem_cons.mpr ⟨s_iret rfl (by decide +kernel), ?_⟩
  exact fun q hq => absurd hq List.not_mem_nil
def T_X8_safe : List (Nat × zO) := [(0, o_aload 1 0), (1, o_iload 2 1), (2, o_callv 1 8 k_X8_isPlace 5), (5, o_if_eq 19 8), (8, o_iload 9 2), (9, o_const 10 0), (10, o_const 13 999), (13, o_calls 3 k_X8_within 16), (16, o_if_ne 21 19), (19, o_const 20 (-1)), (20, o_iret), (21, o_aload 22 0), (22, o_getf 25 8 5), (25, o_const 26 3), (26, o_iload 27 1), (27, o_iload 28 2), (28, o_callv 3 1 k_X1_tell 31), (31, o_iret)]
set_option maxRecDepth 20000 in
theorem t_X8_safe : ∀ q ∈ T_X8_safe, zS k_X8_safe q.1 q.2 := by
  unfold T_X8_safe
  refine List.forall_mem_cons.mpr ⟨s_aload_n (j := 0) (by decide +kernel) rfl rfl, ?_⟩
  refine List.forall_mem_cons.mpr ⟨s_iload_n (j := 1) (by decide +kernel) rfl rfl, ?_⟩
  refine List.forall_mem_cons.mpr ⟨s_callv (idx := 136) (k' := k_X8_isPlace) (T := TX8) (N := 10) rfl q2_187 q2_184 q2_186 qs_5 q1_1 de_X8_isPlace (by decide) (by decide +kernel) rfl, ?_⟩
  refine List.forall_mem_cons.mpr ⟨s_if_eq (off := 14) (by decide +kernel) (by decide) rfl, ?_⟩
  refine List.forall_mem_cons.mpr ⟨s_iload_n (j := 2) (by decide +kernel) rfl rfl, ?_⟩
  refine List.forall_mem_cons.mpr ⟨s_iconst (by decide +kernel) rfl, ?_⟩
  refine List.forall_mem_cons.mpr ⟨s_sipush (by decide +kernel) (by decide) rfl, ?_⟩
  refine List.forall_mem_cons.mpr ⟨s_calls (idx := 101) (k' := k_X8_within) q2_145 q2_143 q2_144 q1_1 de_X8_within (by decide) (by decide +kernel) rfl, ?_⟩
  refine List.forall_mem_cons.mpr ⟨s_if_ne (off := 5) (by decide +kernel) (by decide) rfl, ?_⟩
  refine List.forall_mem_cons.mpr ⟨s_iconst (by decide +kernel) rfl, ?_⟩
  refine List.forall_mem_cons.mpr ⟨s_iret rfl (by decide +kernel), ?_⟩
  refine List.forall_mem_cons.mpr ⟨s_aload_n (j := 0) (by decide +kernel) rfl rfl, ?_⟩
  refine List.forall_mem_cons.mpr ⟨s_getf (idx := 51) (C := RX8) (T := TX8) (N := 10) rfl inX8 (by decide) q2_74 (by decide +kernel) rfl, ?_⟩
  refine List.forall_mem_cons.mpr ⟨s_iconst (by decide +kernel) rfl, ?_⟩
  refine List.forall_mem_cons.mpr ⟨s_iload_n (j := 1) (by decide +kernel) rfl rfl, ?_⟩
  refine List.forall_mem_cons.mpr ⟨s_iload_n (j := 2) (by decide +kernel) rfl rfl, ?_⟩
  refine List.forall_mem_cons.mpr ⟨s_callv (idx := 139) (k' := k_X1_tell) (T := TX1) (N := 7) rfl q2_199 q2_196 q2_197 q2_198 q1_7 de_X1_tell (by decide) (by decide +kernel) rfl, ?_⟩
  refine List.forall_mem_cons.mpr ⟨s_iret rfl (by decide +kernel), ?_⟩
  exact fun q hq => absurd hq List.not_mem_nil
def T_X8_alter : List (Nat × zO) := [(0, o_aload 1 0), (1, o_iload 2 1), (2, o_callv 1 8 k_X8_isWay 5), (5, o_if_eq 17 8), (8, o_iload 9 2), (9, o_const 10 0), (10, o_const 11 2), (11, o_calls 3 k_X8_within 14), (14, o_if_ne 19 17), (17, o_const 18 (-1)), (18, o_iret), (19, o_iload 20 3), (20, o_const 21 0), (21, o_iload 22 2), (22, o_if_ne 31 25), (25, o_const 28 999), (28, o_goto 34), (31, o_const 34 1439), (34, o_calls 3 k_X8_within 37), (37, o_if_ne 42 40), (40, o_const 41 (-1)), (41, o_iret), (42, o_iload 43 2), (43, o_const 44 1), (44, o_icmp_ne 60 47), (47, o_iload 48 3), (48, o_aload 49 0), (49, o_getf 52 8 1), (52, o_getf 55 2 16), (55, o_iload 56 1), (56, o_iald 57), (57, o_icmp_gt 78 60), (60, o_iload 61 2), (61, o_const 62 2), (62, o_icmp_ne 80 65), (65, o_iload 66 3), (66, o_aload 67 0), (67, o_getf 70 8 1), (70, o_getf 73 2 15), (73, o_iload 74 1), (74, o_iald 75), (75, o_icmp_ge 80 78), (78, o_const 79 (-1)), (79, o_iret), (80, o_aload 81 0), (81, o_getf 84 8 5), (84, o_iload 85 2), (85, o_iload 86 1), (86, o_iload 87 3), (87, o_callv 3 1 k_X1_tell 90), (90, o_iret)]
set_option maxRecDepth 20000 in
theorem t_X8_alter : ∀ q ∈ T_X8_alter, zS k_X8_alter q.1 q.2 := by
  unfold T_X8_alter
  refine List.forall_mem_cons.mpr ⟨s_aload_n (j := 0) (by decide +kernel) rfl rfl, ?_⟩
  refine List.forall_mem_cons.mpr ⟨s_iload_n (j := 1) (by decide +kernel) rfl rfl, ?_⟩
  refine List.forall_mem_cons.mpr ⟨s_callv (idx := 142) (k' := k_X8_isWay) (T := TX8) (N := 10) rfl q2_216 q2_213 q2_215 qs_7 q1_1 de_X8_isWay (by decide) (by decide +kernel) rfl, ?_⟩
  refine List.forall_mem_cons.mpr ⟨s_if_eq (off := 12) (by decide +kernel) (by decide) rfl, ?_⟩
  refine List.forall_mem_cons.mpr ⟨s_iload_n (j := 2) (by decide +kernel) rfl rfl, ?_⟩
  refine List.forall_mem_cons.mpr ⟨s_iconst (by decide +kernel) rfl, ?_⟩
  refine List.forall_mem_cons.mpr ⟨s_iconst (by decide +kernel) rfl, ?_⟩
  refine List.forall_mem_cons.mpr ⟨s_calls (idx := 101) (k' := k_X8_within) q2_145 q2_143 q2_144 q1_1 de_X8_within (by decide) (by decide +kernel) rfl, ?_⟩
  refine List.forall_mem_cons.mpr ⟨s_if_ne (off := 5) (by decide +kernel) (by decide) rfl, ?_⟩
  refine List.forall_mem_cons.mpr ⟨s_iconst (by decide +kernel) rfl, ?_⟩
  refine List.forall_mem_cons.mpr ⟨s_iret rfl (by decide +kernel), ?_⟩
  refine List.forall_mem_cons.mpr ⟨s_iload_n (j := 3) (by decide +kernel) rfl rfl, ?_⟩
  refine List.forall_mem_cons.mpr ⟨s_iconst (by decide +kernel) rfl, ?_⟩
  refine List.forall_mem_cons.mpr ⟨s_iload_n (j := 2) (by decide +kernel) rfl rfl, ?_⟩
  refine List.forall_mem_cons.mpr ⟨s_if_ne (off := 9) (by decide +kernel) (by decide) rfl, ?_⟩
  refine List.forall_mem_cons.mpr ⟨s_sipush (by decide +kernel) (by decide) rfl, ?_⟩
  refine List.forall_mem_cons.mpr ⟨s_goto (off := 6) (by decide +kernel) (by decide), ?_⟩
  refine List.forall_mem_cons.mpr ⟨s_sipush (by decide +kernel) (by decide) rfl, ?_⟩
  refine List.forall_mem_cons.mpr ⟨s_calls (idx := 101) (k' := k_X8_within) q2_145 q2_143 q2_144 q1_1 de_X8_within (by decide) (by decide +kernel) rfl, ?_⟩
  refine List.forall_mem_cons.mpr ⟨s_if_ne (off := 5) (by decide +kernel) (by decide) rfl, ?_⟩
  refine List.forall_mem_cons.mpr ⟨s_iconst (by decide +kernel) rfl, ?_⟩
  refine List.forall_mem_cons.mpr ⟨s_iret rfl (by decide +kernel), ?_⟩
  refine List.forall_mem_cons.mpr ⟨s_iload_n (j := 2) (by decide +kernel) rfl rfl, ?_⟩
  refine List.forall_mem_cons.mpr ⟨s_iconst (by decide +kernel) rfl, ?_⟩
  refine List.forall_mem_cons.mpr ⟨s_icmp_ne (off := 16) (by decide +kernel) (by decide) rfl, ?_⟩
  refine List.forall_mem_cons.mpr ⟨s_iload_n (j := 3) (by decide +kernel) rfl rfl, ?_⟩
  refine List.forall_mem_cons.mpr ⟨s_aload_n (j := 0) (by decide +kernel) rfl rfl, ?_⟩
  refine List.forall_mem_cons.mpr ⟨s_getf (idx := 19) (C := RX8) (T := TX8) (N := 10) rfl inX8 (by decide) q2_70 (by decide +kernel) rfl, ?_⟩
  refine List.forall_mem_cons.mpr ⟨s_getf (idx := 145) (C := RX2) (T := TX2) (N := 20) rfl inX2 (by decide) q1_98 (by decide +kernel) rfl, ?_⟩
  refine List.forall_mem_cons.mpr ⟨s_iload_n (j := 1) (by decide +kernel) rfl rfl, ?_⟩
  refine List.forall_mem_cons.mpr ⟨s_iald (by decide +kernel) rfl, ?_⟩
  refine List.forall_mem_cons.mpr ⟨s_icmp_gt (off := 21) (by decide +kernel) (by decide) rfl, ?_⟩
  refine List.forall_mem_cons.mpr ⟨s_iload_n (j := 2) (by decide +kernel) rfl rfl, ?_⟩
  refine List.forall_mem_cons.mpr ⟨s_iconst (by decide +kernel) rfl, ?_⟩
  refine List.forall_mem_cons.mpr ⟨s_icmp_ne (off := 18) (by decide +kernel) (by decide) rfl, ?_⟩
  refine List.forall_mem_cons.mpr ⟨s_iload_n (j := 3) (by decide +kernel) rfl rfl, ?_⟩
  refine List.forall_mem_cons.mpr ⟨s_aload_n (j := 0) (by decide +kernel) rfl rfl, ?_⟩
  refine List.forall_mem_cons.mpr ⟨s_getf (idx := 19) (C := RX8) (T := TX8) (N := 10) rfl inX8 (by decide) q2_70 (by decide +kernel) rfl, ?_⟩
  refine List.forall_mem_cons.mpr ⟨s_getf (idx := 148) (C := RX2) (T := TX2) (N := 20) rfl inX2 (by decide) q1_95 (by decide +kernel) rfl, ?_⟩
  refine List.forall_mem_cons.mpr ⟨s_iload_n (j := 1) (by decide +kernel) rfl rfl, ?_⟩
  refine List.forall_mem_cons.mpr ⟨s_iald (by decide +kernel) rfl, ?_⟩
  refine List.forall_mem_cons.mpr ⟨s_icmp_ge (off := 5) (by decide +kernel) (by decide) rfl, ?_⟩
  refine List.forall_mem_cons.mpr ⟨s_iconst (by decide +kernel) rfl, ?_⟩
  refine List.forall_mem_cons.mpr ⟨s_iret rfl (by decide +kernel), ?_⟩
  refine List.forall_mem_cons.mpr ⟨s_aload_n (j := 0) (by decide +kernel) rfl rfl, ?_⟩
  refine List.forall_mem_cons.mpr ⟨s_getf (idx := 51) (C := RX8) (T := TX8) (N := 10) rfl inX8 (by decide) q2_74 (by decide +kernel) rfl, ?_⟩
  refine List.forall_mem_cons.mpr ⟨s_iload_n (j := 2) (by decide +kernel) rfl rfl, ?_⟩
  refine List.forall_mem_cons.mpr ⟨s_iload_n (j := 1) (by decide +kernel) rfl rfl, ?_⟩
  refine List.forall_mem_cons.mpr ⟨s_iload_n (j := 3) (by decide +kernel) rfl rfl, ?_⟩
  refine List.forall_mem_cons.mpr ⟨s_callv (idx := 139) (k' := k_X1_tell) (T := TX1) (N := 7) rfl q2_199 q2_196 q2_197 q2_198 q1_7 de_X1_tell (by decide) (by decide +kernel) rfl, ?_⟩
  refine List.forall_mem_cons.mpr ⟨s_iret rfl (by decide +kernel), ?_⟩
  exact fun q hq => absurd hq List.not_mem_nil
def T_X8_sort : List (Nat × zO) := [(0, o_iload 1 1), (1, o_calls 1 k_X8_isSort 4), (4, o_if_eq 19 7), (7, o_iload 8 2), (8, o_const 10 50), (10, o_const 13 400), (13, o_calls 3 k_X8_within 16), (16, o_if_ne 21 19), (19, o_const 20 (-1)), (20, o_iret), (21, o_aload 22 0), (22, o_getf 25 8 5), (25, o_const 26 4), (26, o_iload 27 1), (27, o_iload 28 2), (28, o_callv 3 1 k_X1_tell 31), (31, o_iret)]
set_option maxRecDepth 20000 in
theorem t_X8_sort : ∀ q ∈ T_X8_sort, zS k_X8_sort q.1 q.2 := by
  unfold T_X8_sort
  refine List.forall_mem_cons.mpr ⟨s_iload_n (j := 1) (by decide +kernel) rfl rfl, ?_⟩
  refine List.forall_mem_cons.mpr ⟨s_calls (idx := 151) (k' := k_X8_isSort) q2_223 q2_221 q2_222 q1_1 de_X8_isSort (by decide) (by decide +kernel) rfl, ?_⟩
  refine List.forall_mem_cons.mpr ⟨s_if_eq (off := 15) (by decide +kernel) (by decide) rfl, ?_⟩
  refine List.forall_mem_cons.mpr ⟨s_iload_n (j := 2) (by decide +kernel) rfl rfl, ?_⟩
  refine List.forall_mem_cons.mpr ⟨s_bipush (by decide +kernel) (by decide) rfl, ?_⟩
  refine List.forall_mem_cons.mpr ⟨s_sipush (by decide +kernel) (by decide) rfl, ?_⟩
  refine List.forall_mem_cons.mpr ⟨s_calls (idx := 101) (k' := k_X8_within) q2_145 q2_143 q2_144 q1_1 de_X8_within (by decide) (by decide +kernel) rfl, ?_⟩
  refine List.forall_mem_cons.mpr ⟨s_if_ne (off := 5) (by decide +kernel) (by decide) rfl, ?_⟩
  refine List.forall_mem_cons.mpr ⟨s_iconst (by decide +kernel) rfl, ?_⟩
  refine List.forall_mem_cons.mpr ⟨s_iret rfl (by decide +kernel), ?_⟩
  refine List.forall_mem_cons.mpr ⟨s_aload_n (j := 0) (by decide +kernel) rfl rfl, ?_⟩
  refine List.forall_mem_cons.mpr ⟨s_getf (idx := 51) (C := RX8) (T := TX8) (N := 10) rfl inX8 (by decide) q2_74 (by decide +kernel) rfl, ?_⟩
  refine List.forall_mem_cons.mpr ⟨s_iconst (by decide +kernel) rfl, ?_⟩
  refine List.forall_mem_cons.mpr ⟨s_iload_n (j := 1) (by decide +kernel) rfl rfl, ?_⟩
  refine List.forall_mem_cons.mpr ⟨s_iload_n (j := 2) (by decide +kernel) rfl rfl, ?_⟩
  refine List.forall_mem_cons.mpr ⟨s_callv (idx := 139) (k' := k_X1_tell) (T := TX1) (N := 7) rfl q2_199 q2_196 q2_197 q2_198 q1_7 de_X1_tell (by decide) (by decide +kernel) rfl, ?_⟩
  refine List.forall_mem_cons.mpr ⟨s_iret rfl (by decide +kernel), ?_⟩
  exact fun q hq => absurd hq List.not_mem_nil
def T_X8_light : List (Nat × zO) := [(0, o_iload 1 1), (1, o_const 2 0), (2, o_const 3 1), (3, o_calls 3 k_X8_within 6), (6, o_if_eq 45 9), (9, o_iload 10 2), (10, o_calls 1 k_X8_isMinute 13), (13, o_if_eq 45 16), (16, o_iload 17 1), (17, o_if_ne 34 20), (20, o_iload 21 2), (21, o_aload 22 0), (22, o_getf 25 8 1), (25, o_getf 28 2 19), (28, o_icmp_le 47 31), (31, o_goto 45), (34, o_iload 35 2), (35, o_aload 36 0), (36, o_getf 39 8 1), (39, o_getf 42 2 18), (42, o_icmp_ge 47 45), (45, o_const 46 (-1)), (46, o_iret), (47, o_iload 48 1), (48, o_if_ne 70 51), (51, o_aload 52 0), (52, o_getf 55 8 1), (55, o_getf 58 2 18), (58, o_istore 59 3), (59, o_aload 60 0), (60, o_getf 63 8 1), (63, o_iload 64 2), (64, o_putf 67 2 18), (67, o_goto 86), (70, o_aload 71 0), (71, o_getf 74 8 1), (74, o_getf 77 2 19), (77, o_istore 78 3), (78, o_aload 79 0), (79, o_getf 82 8 1), (82, o_iload 83 2), (83, o_putf 86 2 19), (86, o_iload 87 3), (87, o_iret)]
set_option maxRecDepth 20000 in
theorem t_X8_light : ∀ q ∈ T_X8_light, zS k_X8_light q.1 q.2 := by
  unfold T_X8_light
  refine List.forall_mem_cons.mpr ⟨s_iload_n (j := 1) (by decide +kernel) rfl rfl, ?_⟩
  refine List.forall_mem_cons.mpr ⟨s_iconst (by decide +kernel) rfl, ?_⟩
  refine List.forall_mem_cons.mpr ⟨s_iconst (by decide +kernel) rfl, ?_⟩
  refine List.forall_mem_cons.mpr ⟨s_calls (idx := 101) (k' := k_X8_within) q2_145 q2_143 q2_144 q1_1 de_X8_within (by decide) (by decide +kernel) rfl, ?_⟩
  refine List.forall_mem_cons.mpr ⟨s_if_eq (off := 39) (by decide +kernel) (by decide) rfl, ?_⟩
  refine List.forall_mem_cons.mpr ⟨s_iload_n (j := 2) (by decide +kernel) rfl rfl, ?_⟩
  refine List.forall_mem_cons.mpr ⟨s_calls (idx := 112) (k' := k_X8_isMinute) q2_156 q2_154 q2_155 q1_1 de_X8_isMinute (by decide) (by decide +kernel) rfl, ?_⟩
  refine List.forall_mem_cons.mpr ⟨s_if_eq (off := 32) (by decide +kernel) (by decide) rfl, ?_⟩
  refine List.forall_mem_cons.mpr ⟨s_iload_n (j := 1) (by decide +kernel) rfl rfl, ?_⟩
  refine List.forall_mem_cons.mpr ⟨s_if_ne (off := 17) (by decide +kernel) (by decide) rfl, ?_⟩
  refine List.forall_mem_cons.mpr ⟨s_iload_n (j := 2) (by decide +kernel) rfl rfl, ?_⟩
  refine List.forall_mem_cons.mpr ⟨s_aload_n (j := 0) (by decide +kernel) rfl rfl, ?_⟩
  refine List.forall_mem_cons.mpr ⟨s_getf (idx := 19) (C := RX8) (T := TX8) (N := 10) rfl inX8 (by decide) q2_70 (by decide +kernel) rfl, ?_⟩
  refine List.forall_mem_cons.mpr ⟨s_getf (idx := 154) (C := RX2) (T := TX2) (N := 20) rfl inX2 (by decide) q1_105 (by decide +kernel) rfl, ?_⟩
  refine List.forall_mem_cons.mpr ⟨s_icmp_le (off := 19) (by decide +kernel) (by decide) rfl, ?_⟩
  refine List.forall_mem_cons.mpr ⟨s_goto (off := 14) (by decide +kernel) (by decide), ?_⟩
  refine List.forall_mem_cons.mpr ⟨s_iload_n (j := 2) (by decide +kernel) rfl rfl, ?_⟩
  refine List.forall_mem_cons.mpr ⟨s_aload_n (j := 0) (by decide +kernel) rfl rfl, ?_⟩
  refine List.forall_mem_cons.mpr ⟨s_getf (idx := 19) (C := RX8) (T := TX8) (N := 10) rfl inX8 (by decide) q2_70 (by decide +kernel) rfl, ?_⟩
  refine List.forall_mem_cons.mpr ⟨s_getf (idx := 157) (C := RX2) (T := TX2) (N := 20) rfl inX2 (by decide) q1_102 (by decide +kernel) rfl, ?_⟩
  refine List.forall_mem_cons.mpr ⟨s_icmp_ge (off := 5) (by decide +kernel) (by decide) rfl, ?_⟩
  refine List.forall_mem_cons.mpr ⟨s_iconst (by decide +kernel) rfl, ?_⟩
  refine List.forall_mem_cons.mpr ⟨s_iret rfl (by decide +kernel), ?_⟩
  refine List.forall_mem_cons.mpr ⟨s_iload_n (j := 1) (by decide +kernel) rfl rfl, ?_⟩
  refine List.forall_mem_cons.mpr ⟨s_if_ne (off := 22) (by decide +kernel) (by decide) rfl, ?_⟩
  refine List.forall_mem_cons.mpr ⟨s_aload_n (j := 0) (by decide +kernel) rfl rfl, ?_⟩
  refine List.forall_mem_cons.mpr ⟨s_getf (idx := 19) (C := RX8) (T := TX8) (N := 10) rfl inX8 (by decide) q2_70 (by decide +kernel) rfl, ?_⟩
  refine List.forall_mem_cons.mpr ⟨s_getf (idx := 157) (C := RX2) (T := TX2) (N := 20) rfl inX2 (by decide) q1_102 (by decide +kernel) rfl, ?_⟩
  refine List.forall_mem_cons.mpr ⟨s_istore_n (j := 3) (by decide +kernel) rfl (by decide) rfl, ?_⟩
  refine List.forall_mem_cons.mpr ⟨s_aload_n (j := 0) (by decide +kernel) rfl rfl, ?_⟩
  refine List.forall_mem_cons.mpr ⟨s_getf (idx := 19) (C := RX8) (T := TX8) (N := 10) rfl inX8 (by decide) q2_70 (by decide +kernel) rfl, ?_⟩
  refine List.forall_mem_cons.mpr ⟨s_iload_n (j := 2) (by decide +kernel) rfl rfl, ?_⟩
  refine List.forall_mem_cons.mpr ⟨s_putf (idx := 157) (C := RX2) (T := TX2) (N := 20) rfl inX2 tyX2_ok nmX2 (by decide) rfl (tyX2_ok 18 (by decide)) (Or.inl ⟨rfl, kdI 2 18 (by decide)⟩) q1_102 (by decide +kernel) rfl, ?_⟩
  refine List.forall_mem_cons.mpr ⟨s_goto (off := 19) (by decide +kernel) (by decide), ?_⟩
  refine List.forall_mem_cons.mpr ⟨s_aload_n (j := 0) (by decide +kernel) rfl rfl, ?_⟩
  refine List.forall_mem_cons.mpr ⟨s_getf (idx := 19) (C := RX8) (T := TX8) (N := 10) rfl inX8 (by decide) q2_70 (by decide +kernel) rfl, ?_⟩
  refine List.forall_mem_cons.mpr ⟨s_getf (idx := 154) (C := RX2) (T := TX2) (N := 20) rfl inX2 (by decide) q1_105 (by decide +kernel) rfl, ?_⟩
  refine List.forall_mem_cons.mpr ⟨s_istore_n (j := 3) (by decide +kernel) rfl (by decide) rfl, ?_⟩
  refine List.forall_mem_cons.mpr ⟨s_aload_n (j := 0) (by decide +kernel) rfl rfl, ?_⟩
  refine List.forall_mem_cons.mpr ⟨s_getf (idx := 19) (C := RX8) (T := TX8) (N := 10) rfl inX8 (by decide) q2_70 (by decide +kernel) rfl, ?_⟩
  refine List.forall_mem_cons.mpr ⟨s_iload_n (j := 2) (by decide +kernel) rfl rfl, ?_⟩
  refine List.forall_mem_cons.mpr ⟨s_putf (idx := 154) (C := RX2) (T := TX2) (N := 20) rfl inX2 tyX2_ok nmX2 (by decide) rfl (tyX2_ok 19 (by decide)) (Or.inl ⟨rfl, kdI 2 19 (by decide)⟩) q1_105 (by decide +kernel) rfl, ?_⟩
  refine List.forall_mem_cons.mpr ⟨s_iload_n (j := 3) (by decide +kernel) rfl rfl, ?_⟩
  refine List.forall_mem_cons.mpr ⟨s_iret rfl (by decide +kernel), ?_⟩
  exact fun q hq => absurd hq List.not_mem_nil
def T_X8_takes : List (Nat × zO) := [(0, o_aload 1 0), (1, o_iload 2 1), (2, o_callv 1 8 k_X8_isWay 5), (5, o_if_eq 24 8), (8, o_iload 9 2), (9, o_calls 1 k_X8_isSort 12), (12, o_if_eq 24 15), (15, o_iload 16 3), (16, o_const 17 0), (17, o_const 18 3), (18, o_calls 3 k_X8_within 21), (21, o_if_ne 26 24), (24, o_const 25 (-1)), (25, o_iret), (26, o_aload 27 0), (27, o_getf 30 8 1), (30, o_iload 31 1), (31, o_iload 32 2), (32, o_iload 33 3), (33, o_callv 3 2 k_X2_taking 36), (36, o_iret)]
set_option maxRecDepth 20000 in
theorem t_X8_takes : ∀ q ∈ T_X8_takes, zS k_X8_takes q.1 q.2 := by
  unfold T_X8_takes
  refine List.forall_mem_cons.mpr ⟨s_aload_n (j := 0) (by decide +kernel) rfl rfl, ?_⟩
  refine List.forall_mem_cons.mpr ⟨s_iload_n (j := 1) (by decide +kernel) rfl rfl, ?_⟩
  refine List.forall_mem_cons.mpr ⟨s_callv (idx := 142) (k' := k_X8_isWay) (T := TX8) (N := 10) rfl q2_216 q2_213 q2_215 qs_7 q1_1 de_X8_isWay (by decide) (by decide +kernel) rfl, ?_⟩
  refine List.forall_mem_cons.mpr ⟨s_if_eq (off := 19) (by decide +kernel) (by decide) rfl, ?_⟩
  refine List.forall_mem_cons.mpr ⟨s_iload_n (j := 2) (by decide +kernel) rfl rfl, ?_⟩
  refine List.forall_mem_cons.mpr ⟨s_calls (idx := 151) (k' := k_X8_isSort) q2_223 q2_221 q2_222 q1_1 de_X8_isSort (by decide) (by decide +kernel) rfl, ?_⟩
  refine List.forall_mem_cons.mpr ⟨s_if_eq (off := 12) (by decide +kernel) (by decide) rfl, ?_⟩
  refine List.forall_mem_cons.mpr ⟨s_iload_n (j := 3) (by decide +kernel) rfl rfl, ?_⟩
  refine List.forall_mem_cons.mpr ⟨s_iconst (by decide +kernel) rfl, ?_⟩
  refine List.forall_mem_cons.mpr ⟨s_iconst (by decide +kernel) rfl, ?_⟩
  refine List.forall_mem_cons.mpr ⟨s_calls (idx := 101) (k' := k_X8_within) q2_145 q2_143 q2_144 q1_1 de_X8_within (by decide) (by decide +kernel) rfl, ?_⟩
  refine List.forall_mem_cons.mpr ⟨s_if_ne (off := 5) (by decide +kernel) (by decide) rfl, ?_⟩
  refine List.forall_mem_cons.mpr ⟨s_iconst (by decide +kernel) rfl, ?_⟩
  refine List.forall_mem_cons.mpr ⟨s_iret rfl (by decide +kernel), ?_⟩
  refine List.forall_mem_cons.mpr ⟨s_aload_n (j := 0) (by decide +kernel) rfl rfl, ?_⟩
  refine List.forall_mem_cons.mpr ⟨s_getf (idx := 19) (C := RX8) (T := TX8) (N := 10) rfl inX8 (by decide) q2_70 (by decide +kernel) rfl, ?_⟩
  refine List.forall_mem_cons.mpr ⟨s_iload_n (j := 1) (by decide +kernel) rfl rfl, ?_⟩
  refine List.forall_mem_cons.mpr ⟨s_iload_n (j := 2) (by decide +kernel) rfl rfl, ?_⟩
  refine List.forall_mem_cons.mpr ⟨s_iload_n (j := 3) (by decide +kernel) rfl rfl, ?_⟩
  refine List.forall_mem_cons.mpr ⟨s_callv (idx := 160) (k' := k_X2_taking) (T := TX2) (N := 20) rfl q2_235 q2_232 q2_233 q2_234 q1_3 de_X2_taking (by decide) (by decide +kernel) rfl, ?_⟩
  refine List.forall_mem_cons.mpr ⟨s_iret rfl (by decide +kernel), ?_⟩
  exact fun q hq => absurd hq List.not_mem_nil
def T_X8_open : List (Nat × zO) := [(0, o_aload 1 0), (1, o_iload 2 1), (2, o_callv 1 8 k_X8_isWay 5), (5, o_if_eq 34 8), (8, o_aload 9 0), (9, o_iload 10 2), (10, o_callv 1 8 k_X8_isSortAndTide 13), (13, o_if_eq 34 16), (16, o_aload 17 0), (17, o_iload 18 3), (18, o_callv 1 8 k_X8_isWinds 21), (21, o_if_eq 34 24), (24, o_iload 26 4), (26, o_const 27 0), (27, o_const 28 2), (28, o_calls 3 k_X8_within 31), (31, o_if_ne 36 34), (34, o_const 35 (-1)), (35, o_iret), (36, o_aload 37 0), (37, o_getf 40 8 2), (40, o_iload 41 2), (41, o_const 43 10), (43, o_irem 44), (44, o_iload 45 3), (45, o_callv 2 4 k_X4_rise 48), (48, o_const 49 0), (49, o_istore 51 5), (51, o_const 53 (-2)), (53, o_istore 55 6), (55, o_const 57 (-2)), (57, o_istore 59 7), (59, o_aload 60 0), (60, o_getf 63 8 1), (63, o_getf 66 2 15), (66, o_iload 67 1), (67, o_iald 68), (68, o_istore 70 8), (70, o_iload 72 8), (72, o_aload 73 0), (73, o_getf 76 8 1), (76, o_getf 79 2 16), (79, o_iload 80 1), (80, o_iald 81), (81, o_icmp_gt 131 84), (84, o_aload 85 0), (85, o_getf 88 8 4), (88, o_iload 89 1), (89, o_iload 91 8), (91, o_iload 92 2), (92, o_const 94 10), (94, o_idiv 95), (95, o_const 96 0), (96, o_callv 4 3 k_X3_wayGoes 99), (99, o_if_eq 125 102), (102, o_iinc 105 5 1), (105, o_iload 107 6), (107, o_const 109 (-2)), (109, o_icmp_ne 117 112), (112, o_iload 114 8), (114, o_goto 119), (117, o_iload 119 6), (119, o_istore 121 6), (121, o_iload 123 8), (123, o_istore 125 7), (125, o_iinc 128 8 1), (128, o_goto 70), (131, o_iload 133 4), (133, o_if_ne 141 136), (136, o_iload 138 5), (138, o_goto 154), (141, o_iload 143 4), (143, o_const 144 1), (144, o_icmp_ne 152 147), (147, o_iload 149 6), (149, o_goto 154), (152, o_iload 154 7), (154, o_iret)]
set_option maxRecDepth 20000 in
theorem t_X8_open : ∀ q ∈ T_X8_open, zS k_X8_open q.1 q.2 := by
  unfold T_X8_open
  refine List.forall_mem_cons.mpr ⟨s_aload_n (j := 0) (by decide +kernel) rfl rfl, ?_⟩
  refine List.forall_mem_cons.mpr ⟨s_iload_n (j := 1) (by decide +kernel) rfl rfl, ?_⟩
  refine List.forall_mem_cons.mpr ⟨s_callv (idx := 142) (k' := k_X8_isWay) (T := TX8) (N := 10) rfl q2_216 q2_213 q2_215 qs_7 q1_1 de_X8_isWay (by decide) (by decide +kernel) rfl, ?_⟩
  refine List.forall_mem_cons.mpr ⟨s_if_eq (off := 29) (by decide +kernel) (by decide) rfl, ?_⟩
  refine List.forall_mem_cons.mpr ⟨s_aload_n (j := 0) (by decide +kernel) rfl rfl, ?_⟩
  refine List.forall_mem_cons.mpr ⟨s_iload_n (j := 2) (by decide +kernel) rfl rfl, ?_⟩
  refine List.forall_mem_cons.mpr ⟨s_callv (idx := 163) (k' := k_X8_isSortAndTide) (T := TX8) (N := 10) rfl q3_3 q3_0 q3_2 qs_8 q1_1 de_X8_isSortAndTide (by decide) (by decide +kernel) rfl, ?_⟩
  refine List.forall_mem_cons.mpr ⟨s_if_eq (off := 21) (by decide +kernel) (by decide) rfl, ?_⟩
  refine List.forall_mem_cons.mpr ⟨s_aload_n (j := 0) (by decide +kernel) rfl rfl, ?_⟩
  refine List.forall_mem_cons.mpr ⟨s_iload_n (j := 3) (by decide +kernel) rfl rfl, ?_⟩
  refine List.forall_mem_cons.mpr ⟨s_callv (idx := 166) (k' := k_X8_isWinds) (T := TX8) (N := 10) rfl q3_7 q3_4 q3_6 qs_9 q1_1 de_X8_isWinds (by decide) (by decide +kernel) rfl, ?_⟩
  refine List.forall_mem_cons.mpr ⟨s_if_eq (off := 13) (by decide +kernel) (by decide) rfl, ?_⟩
  refine List.forall_mem_cons.mpr ⟨s_iload (by decide +kernel) rfl, ?_⟩
  refine List.forall_mem_cons.mpr ⟨s_iconst (by decide +kernel) rfl, ?_⟩
  refine List.forall_mem_cons.mpr ⟨s_iconst (by decide +kernel) rfl, ?_⟩
  refine List.forall_mem_cons.mpr ⟨s_calls (idx := 101) (k' := k_X8_within) q2_145 q2_143 q2_144 q1_1 de_X8_within (by decide) (by decide +kernel) rfl, ?_⟩
  refine List.forall_mem_cons.mpr ⟨s_if_ne (off := 5) (by decide +kernel) (by decide) rfl, ?_⟩
  refine List.forall_mem_cons.mpr ⟨s_iconst (by decide +kernel) rfl, ?_⟩
  refine List.forall_mem_cons.mpr ⟨s_iret rfl (by decide +kernel), ?_⟩
  refine List.forall_mem_cons.mpr ⟨s_aload_n (j := 0) (by decide +kernel) rfl rfl, ?_⟩
  refine List.forall_mem_cons.mpr ⟨s_getf (idx := 28) (C := RX8) (T := TX8) (N := 10) rfl inX8 (by decide) q2_71 (by decide +kernel) rfl, ?_⟩
  refine List.forall_mem_cons.mpr ⟨s_iload_n (j := 2) (by decide +kernel) rfl rfl, ?_⟩
  refine List.forall_mem_cons.mpr ⟨s_bipush (by decide +kernel) (by decide) rfl, ?_⟩
  refine List.forall_mem_cons.mpr ⟨s_irem (by decide +kernel) rfl, ?_⟩
  refine List.forall_mem_cons.mpr ⟨s_iload_n (j := 3) (by decide +kernel) rfl rfl, ?_⟩
  refine List.forall_mem_cons.mpr ⟨s_callv (idx := 169) (k' := k_X4_rise) (T := TX4) (N := 5) rfl q3_15 q3_12 q3_13 q3_14 q1_4 de_X4_rise (by decide) (by decide +kernel) rfl, ?_⟩
  refine List.forall_mem_cons.mpr ⟨s_iconst (by decide +kernel) rfl, ?_⟩
  refine List.forall_mem_cons.mpr ⟨s_istore (by decide +kernel) (by decide) rfl, ?_⟩
  refine List.forall_mem_cons.mpr ⟨s_bipush (by decide +kernel) (by decide) rfl, ?_⟩
  refine List.forall_mem_cons.mpr ⟨s_istore (by decide +kernel) (by decide) rfl, ?_⟩
  refine List.forall_mem_cons.mpr ⟨s_bipush (by decide +kernel) (by decide) rfl, ?_⟩
  refine List.forall_mem_cons.mpr ⟨s_istore (by decide +kernel) (by decide) rfl, ?_⟩
  refine List.forall_mem_cons.mpr ⟨s_aload_n (j := 0) (by decide +kernel) rfl rfl, ?_⟩
  refine List.forall_mem_cons.mpr ⟨s_getf (idx := 19) (C := RX8) (T := TX8) (N := 10) rfl inX8 (by decide) q2_70 (by decide +kernel) rfl, ?_⟩
  refine List.forall_mem_cons.mpr ⟨s_getf (idx := 148) (C := RX2) (T := TX2) (N := 20) rfl inX2 (by decide) q1_95 (by decide +kernel) rfl, ?_⟩
  refine List.forall_mem_cons.mpr ⟨s_iload_n (j := 1) (by decide +kernel) rfl rfl, ?_⟩
  refine List.forall_mem_cons.mpr ⟨s_iald (by decide +kernel) rfl, ?_⟩
  refine List.forall_mem_cons.mpr ⟨s_istore (by decide +kernel) (by decide) rfl, ?_⟩
  refine List.forall_mem_cons.mpr ⟨s_iload (by decide +kernel) rfl, ?_⟩
  refine List.forall_mem_cons.mpr ⟨s_aload_n (j := 0) (by decide +kernel) rfl rfl, ?_⟩
  refine List.forall_mem_cons.mpr ⟨s_getf (idx := 19) (C := RX8) (T := TX8) (N := 10) rfl inX8 (by decide) q2_70 (by decide +kernel) rfl, ?_⟩
  refine List.forall_mem_cons.mpr ⟨s_getf (idx := 145) (C := RX2) (T := TX2) (N := 20) rfl inX2 (by decide) q1_98 (by decide +kernel) rfl, ?_⟩
  refine List.forall_mem_cons.mpr ⟨s_iload_n (j := 1) (by decide +kernel) rfl rfl, ?_⟩
  refine List.forall_mem_cons.mpr ⟨s_iald (by decide +kernel) rfl, ?_⟩
  refine List.forall_mem_cons.mpr ⟨s_icmp_gt (off := 50) (by decide +kernel) (by decide) rfl, ?_⟩
  refine List.forall_mem_cons.mpr ⟨s_aload_n (j := 0) (by decide +kernel) rfl rfl, ?_⟩
  refine List.forall_mem_cons.mpr ⟨s_getf (idx := 44) (C := RX8) (T := TX8) (N := 10) rfl inX8 (by decide) q2_73 (by decide +kernel) rfl, ?_⟩
  refine List.forall_mem_cons.mpr ⟨s_iload_n (j := 1) (by decide +kernel) rfl rfl, ?_⟩
  refine List.forall_mem_cons.mpr ⟨s_iload (by decide +kernel) rfl, ?_⟩
  refine List.forall_mem_cons.mpr ⟨s_iload_n (j := 2) (by decide +kernel) rfl rfl, ?_⟩
  refine List.forall_mem_cons.mpr ⟨s_bipush (by decide +kernel) (by decide) rfl, ?_⟩
  refine List.forall_mem_cons.mpr ⟨s_idiv (by decide +kernel) rfl, ?_⟩
  refine List.forall_mem_cons.mpr ⟨s_iconst (by decide +kernel) rfl, ?_⟩
  refine List.forall_mem_cons.mpr ⟨s_callv (idx := 173) (k' := k_X3_wayGoes) (T := TX3) (N := 7) rfl q3_29 q3_26 q3_27 q3_28 q1_6 de_X3_wayGoes (by decide) (by decide +kernel) rfl, ?_⟩
  refine List.forall_mem_cons.mpr ⟨s_if_eq (off := 26) (by decide +kernel) (by decide) rfl, ?_⟩
  refine List.forall_mem_cons.mpr ⟨s_iinc (by decide +kernel) (by decide) rfl, ?_⟩
  refine List.forall_mem_cons.mpr ⟨s_iload (by decide +kernel) rfl, ?_⟩
  refine List.forall_mem_cons.mpr ⟨s_bipush (by decide +kernel) (by decide) rfl, ?_⟩
  refine List.forall_mem_cons.mpr ⟨s_icmp_ne (off := 8) (by decide +kernel) (by decide) rfl, ?_⟩
  refine List.forall_mem_cons.mpr ⟨s_iload (by decide +kernel) rfl, ?_⟩
  refine List.forall_mem_cons.mpr ⟨s_goto (off := 5) (by decide +kernel) (by decide), ?_⟩
  refine List.forall_mem_cons.mpr ⟨s_iload (by decide +kernel) rfl, ?_⟩
  refine List.forall_mem_cons.mpr ⟨s_istore (by decide +kernel) (by decide) rfl, ?_⟩
  refine List.forall_mem_cons.mpr ⟨s_iload (by decide +kernel) rfl, ?_⟩
  refine List.forall_mem_cons.mpr ⟨s_istore (by decide +kernel) (by decide) rfl, ?_⟩
  refine List.forall_mem_cons.mpr ⟨s_iinc (by decide +kernel) (by decide) rfl, ?_⟩
  refine List.forall_mem_cons.mpr ⟨s_goto (off := (-58)) (by decide +kernel) (by decide), ?_⟩
  refine List.forall_mem_cons.mpr ⟨s_iload (by decide +kernel) rfl, ?_⟩
  refine List.forall_mem_cons.mpr ⟨s_if_ne (off := 8) (by decide +kernel) (by decide) rfl, ?_⟩
  refine List.forall_mem_cons.mpr ⟨s_iload (by decide +kernel) rfl, ?_⟩
  refine List.forall_mem_cons.mpr ⟨s_goto (off := 16) (by decide +kernel) (by decide), ?_⟩
  refine List.forall_mem_cons.mpr ⟨s_iload (by decide +kernel) rfl, ?_⟩
  refine List.forall_mem_cons.mpr ⟨s_iconst (by decide +kernel) rfl, ?_⟩
  refine List.forall_mem_cons.mpr ⟨s_icmp_ne (off := 8) (by decide +kernel) (by decide) rfl, ?_⟩
  refine List.forall_mem_cons.mpr ⟨s_iload (by decide +kernel) rfl, ?_⟩
  refine List.forall_mem_cons.mpr ⟨s_goto (off := 5) (by decide +kernel) (by decide), ?_⟩
  refine List.forall_mem_cons.mpr ⟨s_iload (by decide +kernel) rfl, ?_⟩
  refine List.forall_mem_cons.mpr ⟨s_iret rfl (by decide +kernel), ?_⟩
  exact fun q hq => absurd hq List.not_mem_nil
def T_X8_soon : List (Nat × zO) := [(0, o_aload 1 0), (1, o_iload 2 1), (2, o_callv 1 8 k_X8_isFrom 5), (5, o_if_eq 33 8), (8, o_aload 9 0), (9, o_iload 10 2), (10, o_callv 1 8 k_X8_isPlace 13), (13, o_if_eq 33 16), (16, o_aload 17 0), (17, o_iload 18 3), (18, o_callv 1 8 k_X8_isSortAndTide 21), (21, o_if_eq 33 24), (24, o_aload 25 0), (25, o_iload 27 4), (27, o_callv 1 8 k_X8_isWinds 30), (30, o_if_ne 35 33), (33, o_const 34 (-1)), (34, o_iret), (35, o_aload 36 0), (36, o_getf 39 8 3), (39, o_iload 40 3), (40, o_iload 42 4), (42, o_callv 2 5 k_X5_prepare 45), (45, o_aload 46 0), (46, o_getf 49 8 3), (49, o_iload 50 1), (50, o_iload 51 2), (51, o_const 54 1439), (54, o_callv 3 5 k_X5_soonest 57), (57, o_iret)]
set_option maxRecDepth 20000 in
theorem t_X8_soon : ∀ q ∈ T_X8_soon, zS k_X8_soon q.1 q.2 := by
  unfold T_X8_soon
  refine List.forall_mem_cons.mpr ⟨s_aload_n (j := 0) (by decide +kernel) rfl rfl, ?_⟩
  refine List.forall_mem_cons.mpr ⟨s_iload_n (j := 1) (by decide +kernel) rfl rfl, ?_⟩
  refine List.forall_mem_cons.mpr ⟨s_callv (idx := 177) (k' := k_X8_isFrom) (T := TX8) (N := 10) rfl q3_42 q3_39 q3_41 qs_11 q1_1 de_X8_isFrom (by decide) (by decide +kernel) rfl, ?_⟩
  refine List.forall_mem_cons.mpr ⟨s_if_eq (off := 28) (by decide +kernel) (by decide) rfl, ?_⟩
  refine List.forall_mem_cons.mpr ⟨s_aload_n (j := 0) (by decide +kernel) rfl rfl, ?_⟩
  refine List.forall_mem_cons.mpr ⟨s_iload_n (j := 2) (by decide +kernel) rfl rfl, ?_⟩
  refine List.forall_mem_cons.mpr ⟨s_callv (idx := 136) (k' := k_X8_isPlace) (T := TX8) (N := 10) rfl q2_187 q2_184 q2_186 qs_5 q1_1 de_X8_isPlace (by decide) (by decide +kernel) rfl, ?_⟩
  refine List.forall_mem_cons.mpr ⟨s_if_eq (off := 20) (by decide +kernel) (by decide) rfl, ?_⟩
  refine List.forall_mem_cons.mpr ⟨s_aload_n (j := 0) (by decide +kernel) rfl rfl, ?_⟩
  refine List.forall_mem_cons.mpr ⟨s_iload_n (j := 3) (by decide +kernel) rfl rfl, ?_⟩
  refine List.forall_mem_cons.mpr ⟨s_callv (idx := 163) (k' := k_X8_isSortAndTide) (T := TX8) (N := 10) rfl q3_3 q3_0 q3_2 qs_8 q1_1 de_X8_isSortAndTide (by decide) (by decide +kernel) rfl, ?_⟩
  refine List.forall_mem_cons.mpr ⟨s_if_eq (off := 12) (by decide +kernel) (by decide) rfl, ?_⟩
  refine List.forall_mem_cons.mpr ⟨s_aload_n (j := 0) (by decide +kernel) rfl rfl, ?_⟩
  refine List.forall_mem_cons.mpr ⟨s_iload (by decide +kernel) rfl, ?_⟩
  refine List.forall_mem_cons.mpr ⟨s_callv (idx := 166) (k' := k_X8_isWinds) (T := TX8) (N := 10) rfl q3_7 q3_4 q3_6 qs_9 q1_1 de_X8_isWinds (by decide) (by decide +kernel) rfl, ?_⟩
  refine List.forall_mem_cons.mpr ⟨s_if_ne (off := 5) (by decide +kernel) (by decide) rfl, ?_⟩
  refine List.forall_mem_cons.mpr ⟨s_iconst (by decide +kernel) rfl, ?_⟩
  refine List.forall_mem_cons.mpr ⟨s_iret rfl (by decide +kernel), ?_⟩
  refine List.forall_mem_cons.mpr ⟨s_aload_n (j := 0) (by decide +kernel) rfl rfl, ?_⟩
  refine List.forall_mem_cons.mpr ⟨s_getf (idx := 37) (C := RX8) (T := TX8) (N := 10) rfl inX8 (by decide) q2_72 (by decide +kernel) rfl, ?_⟩
  refine List.forall_mem_cons.mpr ⟨s_iload_n (j := 3) (by decide +kernel) rfl rfl, ?_⟩
  refine List.forall_mem_cons.mpr ⟨s_iload (by decide +kernel) rfl, ?_⟩
  refine List.forall_mem_cons.mpr ⟨s_callv (idx := 180) (k' := k_X5_prepare) (T := TX5) (N := 7) rfl q3_46 q3_43 q3_44 q3_45 q1_5 de_X5_prepare (by decide) (by decide +kernel) rfl, ?_⟩
  refine List.forall_mem_cons.mpr ⟨s_aload_n (j := 0) (by decide +kernel) rfl rfl, ?_⟩
  refine List.forall_mem_cons.mpr ⟨s_getf (idx := 37) (C := RX8) (T := TX8) (N := 10) rfl inX8 (by decide) q2_72 (by decide +kernel) rfl, ?_⟩
  refine List.forall_mem_cons.mpr ⟨s_iload_n (j := 1) (by decide +kernel) rfl rfl, ?_⟩
  refine List.forall_mem_cons.mpr ⟨s_iload_n (j := 2) (by decide +kernel) rfl rfl, ?_⟩
  refine List.forall_mem_cons.mpr ⟨s_sipush (by decide +kernel) (by decide) rfl, ?_⟩
  refine List.forall_mem_cons.mpr ⟨s_callv (idx := 183) (k' := k_X5_soonest) (T := TX5) (N := 7) rfl q3_53 q3_50 q3_51 q3_52 q1_5 de_X5_soonest (by decide) (by decide +kernel) rfl, ?_⟩
  refine List.forall_mem_cons.mpr ⟨s_iret rfl (by decide +kernel), ?_⟩
  exact fun q hq => absurd hq List.not_mem_nil
def T_X8_last : List (Nat × zO) := [(0, o_aload 1 0), (1, o_iload 2 1), (2, o_callv 1 8 k_X8_isPair 5), (5, o_if_eq 24 8), (8, o_aload 9 0), (9, o_iload 10 2), (10, o_callv 1 8 k_X8_isSortAndTide 13), (13, o_if_eq 24 16), (16, o_aload 17 0), (17, o_iload 18 3), (18, o_callv 1 8 k_X8_isWinds 21), (21, o_if_ne 26 24), (24, o_const 25 (-1)), (25, o_iret), (26, o_aload 27 0), (27, o_getf 30 8 3), (30, o_iload 31 2), (31, o_iload 32 3), (32, o_callv 2 5 k_X5_prepare 35), (35, o_aload 36 0), (36, o_getf 39 8 3), (39, o_iload 40 1), (40, o_const 42 100), (42, o_idiv 43), (43, o_iload 44 1), (44, o_const 46 100), (46, o_irem 47), (47, o_callv 2 5 k_X5_latest 50), (50, o_iret)]
set_option maxRecDepth 20000 in
theorem t_X8_last : ∀ q ∈ T_X8_last, zS k_X8_last q.1 q.2 := by
  unfold T_X8_last
  refine List.forall_mem_cons.mpr ⟨s_aload_n (j := 0) (by decide +kernel) rfl rfl, ?_⟩
  refine List.forall_mem_cons.mpr ⟨s_iload_n (j := 1) (by decide +kernel) rfl rfl, ?_⟩
  refine List.forall_mem_cons.mpr ⟨s_callv (idx := 126) (k' := k_X8_isPair) (T := TX8) (N := 10) rfl q2_183 q2_180 q2_182 qs_4 q1_1 de_X8_isPair (by decide) (by decide +kernel) rfl, ?_⟩
  refine List.forall_mem_cons.mpr ⟨s_if_eq (off := 19) (by decide +kernel) (by decide) rfl, ?_⟩
  refine List.forall_mem_cons.mpr ⟨s_aload_n (j := 0) (by decide +kernel) rfl rfl, ?_⟩
  refine List.forall_mem_cons.mpr ⟨s_iload_n (j := 2) (by decide +kernel) rfl rfl, ?_⟩
  refine List.forall_mem_cons.mpr ⟨s_callv (idx := 163) (k' := k_X8_isSortAndTide) (T := TX8) (N := 10) rfl q3_3 q3_0 q3_2 qs_8 q1_1 de_X8_isSortAndTide (by decide) (by decide +kernel) rfl, ?_⟩
  refine List.forall_mem_cons.mpr ⟨s_if_eq (off := 11) (by decide +kernel) (by decide) rfl, ?_⟩
  refine List.forall_mem_cons.mpr ⟨s_aload_n (j := 0) (by decide +kernel) rfl rfl, ?_⟩
  refine List.forall_mem_cons.mpr ⟨s_iload_n (j := 3) (by decide +kernel) rfl rfl, ?_⟩
  refine List.forall_mem_cons.mpr ⟨s_callv (idx := 166) (k' := k_X8_isWinds) (T := TX8) (N := 10) rfl q3_7 q3_4 q3_6 qs_9 q1_1 de_X8_isWinds (by decide) (by decide +kernel) rfl, ?_⟩
  refine List.forall_mem_cons.mpr ⟨s_if_ne (off := 5) (by decide +kernel) (by decide) rfl, ?_⟩
  refine List.forall_mem_cons.mpr ⟨s_iconst (by decide +kernel) rfl, ?_⟩
  refine List.forall_mem_cons.mpr ⟨s_iret rfl (by decide +kernel), ?_⟩
  refine List.forall_mem_cons.mpr ⟨s_aload_n (j := 0) (by decide +kernel) rfl rfl, ?_⟩
  refine List.forall_mem_cons.mpr ⟨s_getf (idx := 37) (C := RX8) (T := TX8) (N := 10) rfl inX8 (by decide) q2_72 (by decide +kernel) rfl, ?_⟩
  refine List.forall_mem_cons.mpr ⟨s_iload_n (j := 2) (by decide +kernel) rfl rfl, ?_⟩
  refine List.forall_mem_cons.mpr ⟨s_iload_n (j := 3) (by decide +kernel) rfl rfl, ?_⟩
  refine List.forall_mem_cons.mpr ⟨s_callv (idx := 180) (k' := k_X5_prepare) (T := TX5) (N := 7) rfl q3_46 q3_43 q3_44 q3_45 q1_5 de_X5_prepare (by decide) (by decide +kernel) rfl, ?_⟩
  refine List.forall_mem_cons.mpr ⟨s_aload_n (j := 0) (by decide +kernel) rfl rfl, ?_⟩
  refine List.forall_mem_cons.mpr ⟨s_getf (idx := 37) (C := RX8) (T := TX8) (N := 10) rfl inX8 (by decide) q2_72 (by decide +kernel) rfl, ?_⟩
  refine List.forall_mem_cons.mpr ⟨s_iload_n (j := 1) (by decide +kernel) rfl rfl, ?_⟩
  refine List.forall_mem_cons.mpr ⟨s_bipush (by decide +kernel) (by decide) rfl, ?_⟩
  refine List.forall_mem_cons.mpr ⟨s_idiv (by decide +kernel) rfl, ?_⟩
  refine List.forall_mem_cons.mpr ⟨s_iload_n (j := 1) (by decide +kernel) rfl rfl, ?_⟩
  refine List.forall_mem_cons.mpr ⟨s_bipush (by decide +kernel) (by decide) rfl, ?_⟩
  refine List.forall_mem_cons.mpr ⟨s_irem (by decide +kernel) rfl, ?_⟩
  refine List.forall_mem_cons.mpr ⟨s_callv (idx := 186) (k' := k_X5_latest) (T := TX5) (N := 7) rfl q3_81 q3_78 q3_79 q3_80 q1_5 de_X5_latest (by decide) (by decide +kernel) rfl, ?_⟩
  refine List.forall_mem_cons.mpr ⟨s_iret rfl (by decide +kernel), ?_⟩
  exact fun q hq => absurd hq List.not_mem_nil
def T_X8_best : List (Nat × zO) := [(0, o_aload 1 0), (1, o_iload 2 1), (2, o_callv 1 8 k_X8_isFrom 5), (5, o_if_eq 34 8), (8, o_aload 9 0), (9, o_iload 10 2), (10, o_callv 1 8 k_X8_isPlace 13), (13, o_if_eq 34 16), (16, o_aload 17 0), (17, o_iload 18 3), (18, o_callv 1 8 k_X8_isSortAndTide 21), (21, o_if_eq 34 24), (24, o_iload 26 4), (26, o_const 27 0), (27, o_const 28 1), (28, o_calls 3 k_X8_within 31), (31, o_if_ne 36 34), (34, o_const 35 (-1)), (35, o_iret), (36, o_aload 37 0), (37, o_iload 38 1), (38, o_iload 39 2), (39, o_iload 40 3), (40, o_callv 3 8 k_X8_bestSet 43), (43, o_istore 45 5), (45, o_iload 47 4), (47, o_const 48 1), (48, o_icmp_ne 56 51), (51, o_iload 53 5), (53, o_goto 65), (56, o_aload 57 0), (57, o_getf 60 8 1), (60, o_iload 62 5), (62, o_callv 1 2 k_X2_thousandths 65), (65, o_iret)]
set_option maxRecDepth 20000 in
theorem t_X8_best : ∀ q ∈ T_X8_best, zS k_X8_best q.1 q.2 := by
  unfold T_X8_best
  refine List.forall_mem_cons.mpr ⟨s_aload_n (j := 0) (by decide +kernel) rfl rfl, ?_⟩
  refine List.forall_mem_cons.mpr ⟨s_iload_n (j := 1) (by decide +kernel) rfl rfl, ?_⟩
  refine List.forall_mem_cons.mpr ⟨s_callv (idx := 177) (k' := k_X8_isFrom) (T := TX8) (N := 10) rfl q3_42 q3_39 q3_41 qs_11 q1_1 de_X8_isFrom (by decide) (by decide +kernel) rfl, ?_⟩
  refine List.forall_mem_cons.mpr ⟨s_if_eq (off := 29) (by decide +kernel) (by decide) rfl, ?_⟩
  refine List.forall_mem_cons.mpr ⟨s_aload_n (j := 0) (by decide +kernel) rfl rfl, ?_⟩
  refine List.forall_mem_cons.mpr ⟨s_iload_n (j := 2) (by decide +kernel) rfl rfl, ?_⟩
  refine List.forall_mem_cons.mpr ⟨s_callv (idx := 136) (k' := k_X8_isPlace) (T := TX8) (N := 10) rfl q2_187 q2_184 q2_186 qs_5 q1_1 de_X8_isPlace (by decide) (by decide +kernel) rfl, ?_⟩
  refine List.forall_mem_cons.mpr ⟨s_if_eq (off := 21) (by decide +kernel) (by decide) rfl, ?_⟩
  refine List.forall_mem_cons.mpr ⟨s_aload_n (j := 0) (by decide +kernel) rfl rfl, ?_⟩
  refine List.forall_mem_cons.mpr ⟨s_iload_n (j := 3) (by decide +kernel) rfl rfl, ?_⟩
  refine List.forall_mem_cons.mpr ⟨s_callv (idx := 163) (k' := k_X8_isSortAndTide) (T := TX8) (N := 10) rfl q3_3 q3_0 q3_2 qs_8 q1_1 de_X8_isSortAndTide (by decide) (by decide +kernel) rfl, ?_⟩
  refine List.forall_mem_cons.mpr ⟨s_if_eq (off := 13) (by decide +kernel) (by decide) rfl, ?_⟩
  refine List.forall_mem_cons.mpr ⟨s_iload (by decide +kernel) rfl, ?_⟩
  refine List.forall_mem_cons.mpr ⟨s_iconst (by decide +kernel) rfl, ?_⟩
  refine List.forall_mem_cons.mpr ⟨s_iconst (by decide +kernel) rfl, ?_⟩
  refine List.forall_mem_cons.mpr ⟨s_calls (idx := 101) (k' := k_X8_within) q2_145 q2_143 q2_144 q1_1 de_X8_within (by decide) (by decide +kernel) rfl, ?_⟩
  refine List.forall_mem_cons.mpr ⟨s_if_ne (off := 5) (by decide +kernel) (by decide) rfl, ?_⟩
  refine List.forall_mem_cons.mpr ⟨s_iconst (by decide +kernel) rfl, ?_⟩
  refine List.forall_mem_cons.mpr ⟨s_iret rfl (by decide +kernel), ?_⟩
  refine List.forall_mem_cons.mpr ⟨s_aload_n (j := 0) (by decide +kernel) rfl rfl, ?_⟩
  refine List.forall_mem_cons.mpr ⟨s_iload_n (j := 1) (by decide +kernel) rfl rfl, ?_⟩
  refine List.forall_mem_cons.mpr ⟨s_iload_n (j := 2) (by decide +kernel) rfl rfl, ?_⟩
  refine List.forall_mem_cons.mpr ⟨s_iload_n (j := 3) (by decide +kernel) rfl rfl, ?_⟩
  refine List.forall_mem_cons.mpr ⟨s_callv (idx := 190) (k' := k_X8_bestSet) (T := TX8) (N := 10) rfl q3_93 q3_90 q3_92 qs_16 q1_1 de_X8_bestSet (by decide) (by decide +kernel) rfl, ?_⟩
  refine List.forall_mem_cons.mpr ⟨s_istore (by decide +kernel) (by decide) rfl, ?_⟩
  refine List.forall_mem_cons.mpr ⟨s_iload (by decide +kernel) rfl, ?_⟩
  refine List.forall_mem_cons.mpr ⟨s_iconst (by decide +kernel) rfl, ?_⟩
  refine List.forall_mem_cons.mpr ⟨s_icmp_ne (off := 8) (by decide +kernel) (by decide) rfl, ?_⟩
  refine List.forall_mem_cons.mpr ⟨s_iload (by decide +kernel) rfl, ?_⟩
  refine List.forall_mem_cons.mpr ⟨s_goto (off := 12) (by decide +kernel) (by decide), ?_⟩
  refine List.forall_mem_cons.mpr ⟨s_aload_n (j := 0) (by decide +kernel) rfl rfl, ?_⟩
  refine List.forall_mem_cons.mpr ⟨s_getf (idx := 19) (C := RX8) (T := TX8) (N := 10) rfl inX8 (by decide) q2_70 (by decide +kernel) rfl, ?_⟩
  refine List.forall_mem_cons.mpr ⟨s_iload (by decide +kernel) rfl, ?_⟩
  refine List.forall_mem_cons.mpr ⟨s_callv (idx := 193) (k' := k_X2_thousandths) (T := TX2) (N := 20) rfl q3_109 q3_106 q3_107 q3_108 q1_3 de_X2_thousandths (by decide) (by decide +kernel) rfl, ?_⟩
  refine List.forall_mem_cons.mpr ⟨s_iret rfl (by decide +kernel), ?_⟩
  exact fun q hq => absurd hq List.not_mem_nil
def T_X8_days : List (Nat × zO) := [(0, o_aload 1 0), (1, o_iload 2 1), (2, o_callv 1 8 k_X8_isPair 5), (5, o_if_eq 24 8), (8, o_iload 9 2), (9, o_calls 1 k_X8_isSort 12), (12, o_if_eq 24 15), (15, o_iload 16 3), (16, o_const 17 0), (17, o_const 18 1), (18, o_calls 3 k_X8_within 21), (21, o_if_ne 26 24), (24, o_const 25 (-1)), (25, o_iret), (26, o_const 27 0), (27, o_istore 29 4), (29, o_const 31 (-2)), (31, o_istore 33 5), (33, o_const 35 (-2)), (35, o_istore 37 6), (37, o_const 38 0), (38, o_istore 40 7), (40, o_iload 42 7), (42, o_aload 43 0), (43, o_getf 46 8 1), (46, o_getf 49 2 0), (49, o_icmp_ge 127 52), (52, o_aload 53 0), (53, o_getf 56 8 3), (56, o_const 58 10), (58, o_iload 59 2), (59, o_imul 60), (60, o_iload 62 7), (62, o_iadd 63), (63, o_aload 64 0), (64, o_getf 67 8 1), (67, o_callv 0 2 k_X2_allWinds 70), (70, o_callv 2 5 k_X5_prepare 73), (73, o_aload 74 0), (74, o_getf 77 8 3), (77, o_iload 78 1), (78, o_const 80 100), (80, o_idiv 81), (81, o_iload 82 1), (82, o_const 84 100), (84, o_irem 85), (85, o_callv 2 5 k_X5_latest 88), (88, o_istore 90 8), (90, o_iload 92 8), (92, o_const 94 (-2)), (94, o_icmp_eq 106 97), (97, o_iload 99 4), (99, o_const 100 1), (100, o_iload 102 7), (102, o_ishl 103), (103, o_ior 104), (104, o_istore 106 4), (106, o_iload 108 8), (108, o_iload 110 6), (110, o_icmp_le 121 113), (113, o_iload 115 8), (115, o_istore 117 6), (117, o_iload 119 7), (119, o_istore 121 5), (121, o_iinc 124 7 1), (124, o_goto 40), (127, o_iload 128 3), (128, o_if_ne 136 131), (131, o_iload 133 4), (133, o_goto 138), (136, o_iload 138 5), (138, o_iret)]
set_option maxRecDepth 20000 in
theorem t_X8_days : ∀ q ∈ T_X8_days, zS k_X8_days q.1 q.2 := by
  unfold T_X8_days
  refine List.forall_mem_cons.mpr ⟨s_aload_n (j := 0) (by decide +kernel) rfl rfl, ?_⟩
  refine List.forall_mem_cons.mpr ⟨s_iload_n (j := 1) (by decide +kernel) rfl rfl, ?_⟩
  refine List.forall_mem_cons.mpr ⟨s_callv (idx := 126) (k' := k_X8_isPair) (T := TX8) (N := 10) rfl q2_183 q2_180 q2_182 qs_4 q1_1 de_X8_isPair (by decide) (by decide +kernel) rfl, ?_⟩
  refine List.forall_mem_cons.mpr ⟨s_if_eq (off := 19) (by decide +kernel) (by decide) rfl, ?_⟩
  refine List.forall_mem_cons.mpr ⟨s_iload_n (j := 2) (by decide +kernel) rfl rfl, ?_⟩
  refine List.forall_mem_cons.mpr ⟨s_calls (idx := 151) (k' := k_X8_isSort) q2_223 q2_221 q2_222 q1_1 de_X8_isSort (by decide) (by decide +kernel) rfl, ?_⟩
  refine List.forall_mem_cons.mpr ⟨s_if_eq (off := 12) (by decide +kernel) (by decide) rfl, ?_⟩
  refine List.forall_mem_cons.mpr ⟨s_iload_n (j := 3) (by decide +kernel) rfl rfl, ?_⟩
  refine List.forall_mem_cons.mpr ⟨s_iconst (by decide +kernel) rfl, ?_⟩
  refine List.forall_mem_cons.mpr ⟨s_iconst (by decide +kernel) rfl, ?_⟩
  refine List.forall_mem_cons.mpr ⟨s_calls (idx := 101) (k' := k_X8_within) q2_145 q2_143 q2_144 q1_1 de_X8_within (by decide) (by decide +kernel) rfl, ?_⟩
  refine List.forall_mem_cons.mpr ⟨s_if_ne (off := 5) (by decide +kernel) (by decide) rfl, ?_⟩
  refine List.forall_mem_cons.mpr ⟨s_iconst (by decide +kernel) rfl, ?_⟩
  refine List.forall_mem_cons.mpr ⟨s_iret rfl (by decide +kernel), ?_⟩
  refine List.forall_mem_cons.mpr ⟨s_iconst (by decide +kernel) rfl, ?_⟩
  refine List.forall_mem_cons.mpr ⟨s_istore (by decide +kernel) (by decide) rfl, ?_⟩
  refine List.forall_mem_cons.mpr ⟨s_bipush (by decide +kernel) (by decide) rfl, ?_⟩
  refine List.forall_mem_cons.mpr ⟨s_istore (by decide +kernel) (by decide) rfl, ?_⟩
  refine List.forall_mem_cons.mpr ⟨s_bipush (by decide +kernel) (by decide) rfl, ?_⟩
  refine List.forall_mem_cons.mpr ⟨s_istore (by decide +kernel) (by decide) rfl, ?_⟩
  refine List.forall_mem_cons.mpr ⟨s_iconst (by decide +kernel) rfl, ?_⟩
  refine List.forall_mem_cons.mpr ⟨s_istore (by decide +kernel) (by decide) rfl, ?_⟩
  refine List.forall_mem_cons.mpr ⟨s_iload (by decide +kernel) rfl, ?_⟩
  refine List.forall_mem_cons.mpr ⟨s_aload_n (j := 0) (by decide +kernel) rfl rfl, ?_⟩
  refine List.forall_mem_cons.mpr ⟨s_getf (idx := 19) (C := RX8) (T := TX8) (N := 10) rfl inX8 (by decide) q2_70 (by decide +kernel) rfl, ?_⟩
  refine List.forall_mem_cons.mpr ⟨s_getf (idx := 81) (C := RX2) (T := TX2) (N := 20) rfl inX2 (by decide) q1_59 (by decide +kernel) rfl, ?_⟩
  refine List.forall_mem_cons.mpr ⟨s_icmp_ge (off := 78) (by decide +kernel) (by decide) rfl, ?_⟩
  refine List.forall_mem_cons.mpr ⟨s_aload_n (j := 0) (by decide +kernel) rfl rfl, ?_⟩
  refine List.forall_mem_cons.mpr ⟨s_getf (idx := 37) (C := RX8) (T := TX8) (N := 10) rfl inX8 (by decide) q2_72 (by decide +kernel) rfl, ?_⟩
  refine List.forall_mem_cons.mpr ⟨s_bipush (by decide +kernel) (by decide) rfl, ?_⟩
  refine List.forall_mem_cons.mpr ⟨s_iload_n (j := 2) (by decide +kernel) rfl rfl, ?_⟩
  refine List.forall_mem_cons.mpr ⟨s_imul (by decide +kernel) rfl, ?_⟩
  refine List.forall_mem_cons.mpr ⟨s_iload (by decide +kernel) rfl, ?_⟩
  refine List.forall_mem_cons.mpr ⟨s_iadd (by decide +kernel) rfl, ?_⟩
  refine List.forall_mem_cons.mpr ⟨s_aload_n (j := 0) (by decide +kernel) rfl rfl, ?_⟩
  refine List.forall_mem_cons.mpr ⟨s_getf (idx := 19) (C := RX8) (T := TX8) (N := 10) rfl inX8 (by decide) q2_70 (by decide +kernel) rfl, ?_⟩
  refine List.forall_mem_cons.mpr ⟨s_callv (idx := 197) (k' := k_X2_allWinds) (T := TX2) (N := 20) rfl q3_11 q3_8 q3_9 q3_10 q1_3 de_X2_allWinds (by decide) (by decide +kernel) rfl, ?_⟩
  refine List.forall_mem_cons.mpr ⟨s_callv (idx := 180) (k' := k_X5_prepare) (T := TX5) (N := 7) rfl q3_46 q3_43 q3_44 q3_45 q1_5 de_X5_prepare (by decide) (by decide +kernel) rfl, ?_⟩
  refine List.forall_mem_cons.mpr ⟨s_aload_n (j := 0) (by decide +kernel) rfl rfl, ?_⟩
  refine List.forall_mem_cons.mpr ⟨s_getf (idx := 37) (C := RX8) (T := TX8) (N := 10) rfl inX8 (by decide) q2_72 (by decide +kernel) rfl, ?_⟩
  refine List.forall_mem_cons.mpr ⟨s_iload_n (j := 1) (by decide +kernel) rfl rfl, ?_⟩
  refine List.forall_mem_cons.mpr ⟨s_bipush (by decide +kernel) (by decide) rfl, ?_⟩
  refine List.forall_mem_cons.mpr ⟨s_idiv (by decide +kernel) rfl, ?_⟩
  refine List.forall_mem_cons.mpr ⟨s_iload_n (j := 1) (by decide +kernel) rfl rfl, ?_⟩
  refine List.forall_mem_cons.mpr ⟨s_bipush (by decide +kernel) (by decide) rfl, ?_⟩
  refine List.forall_mem_cons.mpr ⟨s_irem (by decide +kernel) rfl, ?_⟩
  refine List.forall_mem_cons.mpr ⟨s_callv (idx := 186) (k' := k_X5_latest) (T := TX5) (N := 7) rfl q3_81 q3_78 q3_79 q3_80 q1_5 de_X5_latest (by decide) (by decide +kernel) rfl, ?_⟩
  refine List.forall_mem_cons.mpr ⟨s_istore (by decide +kernel) (by decide) rfl, ?_⟩
  refine List.forall_mem_cons.mpr ⟨s_iload (by decide +kernel) rfl, ?_⟩
  refine List.forall_mem_cons.mpr ⟨s_bipush (by decide +kernel) (by decide) rfl, ?_⟩
  refine List.forall_mem_cons.mpr ⟨s_icmp_eq (off := 12) (by decide +kernel) (by decide) rfl, ?_⟩
  refine List.forall_mem_cons.mpr ⟨s_iload (by decide +kernel) rfl, ?_⟩
  refine List.forall_mem_cons.mpr ⟨s_iconst (by decide +kernel) rfl, ?_⟩
  refine List.forall_mem_cons.mpr ⟨s_iload (by decide +kernel) rfl, ?_⟩
  refine List.forall_mem_cons.mpr ⟨s_ishl (by decide +kernel) rfl, ?_⟩
  refine List.forall_mem_cons.mpr ⟨s_ior (by decide +kernel) rfl, ?_⟩
  refine List.forall_mem_cons.mpr ⟨s_istore (by decide +kernel) (by decide) rfl, ?_⟩
  refine List.forall_mem_cons.mpr ⟨s_iload (by decide +kernel) rfl, ?_⟩
  refine List.forall_mem_cons.mpr ⟨s_iload (by decide +kernel) rfl, ?_⟩
  refine List.forall_mem_cons.mpr ⟨s_icmp_le (off := 11) (by decide +kernel) (by decide) rfl, ?_⟩
  refine List.forall_mem_cons.mpr ⟨s_iload (by decide +kernel) rfl, ?_⟩
  refine List.forall_mem_cons.mpr ⟨s_istore (by decide +kernel) (by decide) rfl, ?_⟩
  refine List.forall_mem_cons.mpr ⟨s_iload (by decide +kernel) rfl, ?_⟩
  refine List.forall_mem_cons.mpr ⟨s_istore (by decide +kernel) (by decide) rfl, ?_⟩
  refine List.forall_mem_cons.mpr ⟨s_iinc (by decide +kernel) (by decide) rfl, ?_⟩
  refine List.forall_mem_cons.mpr ⟨s_goto (off := (-84)) (by decide +kernel) (by decide), ?_⟩
  refine List.forall_mem_cons.mpr ⟨s_iload_n (j := 3) (by decide +kernel) rfl rfl, ?_⟩
  refine List.forall_mem_cons.mpr ⟨s_if_ne (off := 8) (by decide +kernel) (by decide) rfl, ?_⟩
  refine List.forall_mem_cons.mpr ⟨s_iload (by decide +kernel) rfl, ?_⟩
  refine List.forall_mem_cons.mpr ⟨s_goto (off := 5) (by decide +kernel) (by decide), ?_⟩
  refine List.forall_mem_cons.mpr ⟨s_iload (by decide +kernel) rfl, ?_⟩
  refine List.forall_mem_cons.mpr ⟨s_iret rfl (by decide +kernel), ?_⟩
  exact fun q hq => absurd hq List.not_mem_nil
def T_X8_two : List (Nat × zO) := [(0, o_aload 1 0), (1, o_iload 2 1), (2, o_callv 1 8 k_X8_isFrom 5), (5, o_if_eq 43 8), (8, o_aload 9 0), (9, o_iload 10 2), (10, o_callv 1 8 k_X8_isFrom 13), (13, o_if_eq 43 16), (16, o_aload 17 0), (17, o_iload 18 3), (18, o_callv 1 8 k_X8_isSortAndTide 21), (21, o_if_eq 43 24), (24, o_aload 25 0), (25, o_iload 27 4), (27, o_callv 1 8 k_X8_isWinds 30), (30, o_if_eq 43 33), (33, o_iload 35 5), (35, o_const 36 0), (36, o_const 37 1), (37, o_calls 3 k_X8_within 40), (40, o_if_ne 45 43), (43, o_const 44 (-1)), (44, o_iret), (45, o_aload 46 0), (46, o_getf 49 8 3), (49, o_iload 50 3), (50, o_iload 52 4), (52, o_callv 2 5 k_X5_prepare 55), (55, o_aload 56 0), (56, o_getf 59 8 3), (59, o_iload 60 1), (60, o_iload 61 2), (61, o_callv 2 5 k_X5_meeting 64), (64, o_istore 66 6), (66, o_iload 68 6), (68, o_const 70 (-2)), (70, o_icmp_ne 76 73), (73, o_const 75 (-2)), (75, o_iret), (76, o_iload 78 5), (78, o_if_ne 90 81), (81, o_iload 83 6), (83, o_const 86 10000), (86, o_irem 87), (87, o_goto 96), (90, o_iload 92 6), (92, o_const 95 10000), (95, o_idiv 96), (96, o_iret)]
set_option maxRecDepth 20000 in
theorem t_X8_two : ∀ q ∈ T_X8_two, zS k_X8_two q.1 q.2 := by
  unfold T_X8_two
  refine List.forall_mem_cons.mpr ⟨s_aload_n (j := 0) (by decide +kernel) rfl rfl, ?_⟩
  refine List.forall_mem_cons.mpr ⟨s_iload_n (j := 1) (by decide +kernel) rfl rfl, ?_⟩
  refine List.forall_mem_cons.mpr ⟨s_callv (idx := 177) (k' := k_X8_isFrom) (T := TX8) (N := 10) rfl q3_42 q3_39 q3_41 qs_11 q1_1 de_X8_isFrom (by decide) (by decide +kernel) rfl, ?_⟩
  refine List.forall_mem_cons.mpr ⟨s_if_eq (off := 38) (by decide +kernel) (by decide) rfl, ?_⟩
  refine List.forall_mem_cons.mpr ⟨s_aload_n (j := 0) (by decide +kernel) rfl rfl, ?_⟩
  refine List.forall_mem_cons.mpr ⟨s_iload_n (j := 2) (by decide +kernel) rfl rfl, ?_⟩
  refine List.forall_mem_cons.mpr ⟨s_callv (idx := 177) (k' := k_X8_isFrom) (T := TX8) (N := 10) rfl q3_42 q3_39 q3_41 qs_11 q1_1 de_X8_isFrom (by decide) (by decide +kernel) rfl, ?_⟩
  refine List.forall_mem_cons.mpr ⟨s_if_eq (off := 30) (by decide +kernel) (by decide) rfl, ?_⟩
  refine List.forall_mem_cons.mpr ⟨s_aload_n (j := 0) (by decide +kernel) rfl rfl, ?_⟩
  refine List.forall_mem_cons.mpr ⟨s_iload_n (j := 3) (by decide +kernel) rfl rfl, ?_⟩
  refine List.forall_mem_cons.mpr ⟨s_callv (idx := 163) (k' := k_X8_isSortAndTide) (T := TX8) (N := 10) rfl q3_3 q3_0 q3_2 qs_8 q1_1 de_X8_isSortAndTide (by decide) (by decide +kernel) rfl, ?_⟩
  refine List.forall_mem_cons.mpr ⟨s_if_eq (off := 22) (by decide +kernel) (by decide) rfl, ?_⟩
  refine List.forall_mem_cons.mpr ⟨s_aload_n (j := 0) (by decide +kernel) rfl rfl, ?_⟩
  refine List.forall_mem_cons.mpr ⟨s_iload (by decide +kernel) rfl, ?_⟩
  refine List.forall_mem_cons.mpr ⟨s_callv (idx := 166) (k' := k_X8_isWinds) (T := TX8) (N := 10) rfl q3_7 q3_4 q3_6 qs_9 q1_1 de_X8_isWinds (by decide) (by decide +kernel) rfl, ?_⟩
  refine List.forall_mem_cons.mpr ⟨s_if_eq (off := 13) (by decide +kernel) (by decide) rfl, ?_⟩
  refine List.forall_mem_cons.mpr ⟨s_iload (by decide +kernel) rfl, ?_⟩
  refine List.forall_mem_cons.mpr ⟨s_iconst (by decide +kernel) rfl, ?_⟩
  refine List.forall_mem_cons.mpr ⟨s_iconst (by decide +kernel) rfl, ?_⟩
  refine List.forall_mem_cons.mpr ⟨s_calls (idx := 101) (k' := k_X8_within) q2_145 q2_143 q2_144 q1_1 de_X8_within (by decide) (by decide +kernel) rfl, ?_⟩
  refine List.forall_mem_cons.mpr ⟨s_if_ne (off := 5) (by decide +kernel) (by decide) rfl, ?_⟩
  refine List.forall_mem_cons.mpr ⟨s_iconst (by decide +kernel) rfl, ?_⟩
  refine List.forall_mem_cons.mpr ⟨s_iret rfl (by decide +kernel), ?_⟩
  refine List.forall_mem_cons.mpr ⟨s_aload_n (j := 0) (by decide +kernel) rfl rfl, ?_⟩
  refine List.forall_mem_cons.mpr ⟨s_getf (idx := 37) (C := RX8) (T := TX8) (N := 10) rfl inX8 (by decide) q2_72 (by decide +kernel) rfl, ?_⟩
  refine List.forall_mem_cons.mpr ⟨s_iload_n (j := 3) (by decide +kernel) rfl rfl, ?_⟩
  refine List.forall_mem_cons.mpr ⟨s_iload (by decide +kernel) rfl, ?_⟩
  refine List.forall_mem_cons.mpr ⟨s_callv (idx := 180) (k' := k_X5_prepare) (T := TX5) (N := 7) rfl q3_46 q3_43 q3_44 q3_45 q1_5 de_X5_prepare (by decide) (by decide +kernel) rfl, ?_⟩
  refine List.forall_mem_cons.mpr ⟨s_aload_n (j := 0) (by decide +kernel) rfl rfl, ?_⟩
  refine List.forall_mem_cons.mpr ⟨s_getf (idx := 37) (C := RX8) (T := TX8) (N := 10) rfl inX8 (by decide) q2_72 (by decide +kernel) rfl, ?_⟩
  refine List.forall_mem_cons.mpr ⟨s_iload_n (j := 1) (by decide +kernel) rfl rfl, ?_⟩
  refine List.forall_mem_cons.mpr ⟨s_iload_n (j := 2) (by decide +kernel) rfl rfl, ?_⟩
  refine List.forall_mem_cons.mpr ⟨s_callv (idx := 200) (k' := k_X5_meeting) (T := TX5) (N := 7) rfl q3_123 q3_120 q3_121 q3_122 q1_5 de_X5_meeting (by decide) (by decide +kernel) rfl, ?_⟩
  refine List.forall_mem_cons.mpr ⟨s_istore (by decide +kernel) (by decide) rfl, ?_⟩
  refine List.forall_mem_cons.mpr ⟨s_iload (by decide +kernel) rfl, ?_⟩
  refine List.forall_mem_cons.mpr ⟨s_bipush (by decide +kernel) (by decide) rfl, ?_⟩
  refine List.forall_mem_cons.mpr ⟨s_icmp_ne (off := 6) (by decide +kernel) (by decide) rfl, ?_⟩
  refine List.forall_mem_cons.mpr ⟨s_bipush (by decide +kernel) (by decide) rfl, ?_⟩
  refine List.forall_mem_cons.mpr ⟨s_iret rfl (by decide +kernel), ?_⟩
  refine List.forall_mem_cons.mpr ⟨s_iload (by decide +kernel) rfl, ?_⟩
  refine List.forall_mem_cons.mpr ⟨s_if_ne (off := 12) (by decide +kernel) (by decide) rfl, ?_⟩
  refine List.forall_mem_cons.mpr ⟨s_iload (by decide +kernel) rfl, ?_⟩
  refine List.forall_mem_cons.mpr ⟨s_sipush (by decide +kernel) (by decide) rfl, ?_⟩
  refine List.forall_mem_cons.mpr ⟨s_irem (by decide +kernel) rfl, ?_⟩
  refine List.forall_mem_cons.mpr ⟨s_goto (off := 9) (by decide +kernel) (by decide), ?_⟩
  refine List.forall_mem_cons.mpr ⟨s_iload (by decide +kernel) rfl, ?_⟩
  refine List.forall_mem_cons.mpr ⟨s_sipush (by decide +kernel) (by decide) rfl, ?_⟩
  refine List.forall_mem_cons.mpr ⟨s_idiv (by decide +kernel) rfl, ?_⟩
  refine List.forall_mem_cons.mpr ⟨s_iret rfl (by decide +kernel), ?_⟩
  exact fun q hq => absurd hq List.not_mem_nil
def T_X8_worth : List (Nat × zO) := [(0, o_aload 1 0), (1, o_iload 2 1), (2, o_callv 1 8 k_X8_isWay 5), (5, o_if_eq 33 8), (8, o_aload 9 0), (9, o_iload 10 2), (10, o_callv 1 8 k_X8_isFrom 13), (13, o_if_eq 33 16), (16, o_aload 17 0), (17, o_iload 18 3), (18, o_callv 1 8 k_X8_isPlace 21), (21, o_if_eq 33 24), (24, o_aload 25 0), (25, o_iload 27 4), (27, o_callv 1 8 k_X8_isSortAndTide 30), (30, o_if_ne 35 33), (33, o_const 34 (-1)), (34, o_iret), (35, o_aload 36 0), (36, o_getf 39 8 3), (39, o_iload 41 4), (41, o_aload 42 0), (42, o_getf 45 8 1), (45, o_callv 0 2 k_X2_allWinds 48), (48, o_callv 2 5 k_X5_prepare 51), (51, o_aload 52 0), (52, o_iload 53 2), (53, o_iload 54 3), (54, o_callv 2 8 k_X8_soonOrDay 57), (57, o_istore 59 5), (59, o_aload 60 0), (60, o_getf 63 8 1), (63, o_getf 66 2 15), (66, o_iload 67 1), (67, o_iald 68), (68, o_istore 70 6), (70, o_aload 71 0), (71, o_getf 74 8 1), (74, o_getf 77 2 16), (77, o_iload 78 1), (78, o_iald 79), (79, o_istore 81 7), (81, o_aload 82 0), (82, o_getf 85 8 1), (85, o_getf 88 2 15), (88, o_iload 89 1), (89, o_const 90 0), (90, o_iast 91), (91, o_aload 92 0), (92, o_getf 95 8 1), (95, o_getf 98 2 16), (98, o_iload 99 1), (99, o_const 102 1439), (102, o_iast 103), (103, o_aload 104 0), (104, o_iload 105 2), (105, o_iload 106 3), (106, o_callv 2 8 k_X8_soonOrDay 109), (109, o_istore 111 8), (111, o_aload 112 0), (112, o_getf 115 8 1), (115, o_getf 118 2 15), (118, o_iload 119 1), (119, o_iload 121 6), (121, o_iast 122), (122, o_aload 123 0), (123, o_getf 126 8 1), (126, o_getf 129 2 16), (129, o_iload 130 1), (130, o_iload 132 7), (132, o_iast 133), (133, o_iload 135 5), (135, o_iload 137 8), (137, o_isub 138), (138, o_iret)]
set_option maxRecDepth 20000 in
theorem t_X8_worth : ∀ q ∈ T_X8_worth, zS k_X8_worth q.1 q.2 := by
  unfold T_X8_worth
  refine List.forall_mem_cons.mpr ⟨s_aload_n (j := 0) (by decide +kernel) rfl rfl, ?_⟩
  refine List.forall_mem_cons.mpr ⟨s_iload_n (j := 1) (by decide +kernel) rfl rfl, ?_⟩
  refine List.forall_mem_cons.mpr ⟨s_callv (idx := 142) (k' := k_X8_isWay) (T := TX8) (N := 10) rfl q2_216 q2_213 q2_215 qs_7 q1_1 de_X8_isWay (by decide) (by decide +kernel) rfl, ?_⟩
  refine List.forall_mem_cons.mpr ⟨s_if_eq (off := 28) (by decide +kernel) (by decide) rfl, ?_⟩
  refine List.forall_mem_cons.mpr ⟨s_aload_n (j := 0) (by decide +kernel) rfl rfl, ?_⟩
  refine List.forall_mem_cons.mpr ⟨s_iload_n (j := 2) (by decide +kernel) rfl rfl, ?_⟩
  refine List.forall_mem_cons.mpr ⟨s_callv (idx := 177) (k' := k_X8_isFrom) (T := TX8) (N := 10) rfl q3_42 q3_39 q3_41 qs_11 q1_1 de_X8_isFrom (by decide) (by decide +kernel) rfl, ?_⟩
  refine List.forall_mem_cons.mpr ⟨s_if_eq (off := 20) (by decide +kernel) (by decide) rfl, ?_⟩
  refine List.forall_mem_cons.mpr ⟨s_aload_n (j := 0) (by decide +kernel) rfl rfl, ?_⟩
  refine List.forall_mem_cons.mpr ⟨s_iload_n (j := 3) (by decide +kernel) rfl rfl, ?_⟩
  refine List.forall_mem_cons.mpr ⟨s_callv (idx := 136) (k' := k_X8_isPlace) (T := TX8) (N := 10) rfl q2_187 q2_184 q2_186 qs_5 q1_1 de_X8_isPlace (by decide) (by decide +kernel) rfl, ?_⟩
  refine List.forall_mem_cons.mpr ⟨s_if_eq (off := 12) (by decide +kernel) (by decide) rfl, ?_⟩
  refine List.forall_mem_cons.mpr ⟨s_aload_n (j := 0) (by decide +kernel) rfl rfl, ?_⟩
  refine List.forall_mem_cons.mpr ⟨s_iload (by decide +kernel) rfl, ?_⟩
  refine List.forall_mem_cons.mpr ⟨s_callv (idx := 163) (k' := k_X8_isSortAndTide) (T := TX8) (N := 10) rfl q3_3 q3_0 q3_2 qs_8 q1_1 de_X8_isSortAndTide (by decide) (by decide +kernel) rfl, ?_⟩
  refine List.forall_mem_cons.mpr ⟨s_if_ne (off := 5) (by decide +kernel) (by decide) rfl, ?_⟩
  refine List.forall_mem_cons.mpr ⟨s_iconst (by decide +kernel) rfl, ?_⟩
  refine List.forall_mem_cons.mpr ⟨s_iret rfl (by decide +kernel), ?_⟩
  refine List.forall_mem_cons.mpr ⟨s_aload_n (j := 0) (by decide +kernel) rfl rfl, ?_⟩
  refine List.forall_mem_cons.mpr ⟨s_getf (idx := 37) (C := RX8) (T := TX8) (N := 10) rfl inX8 (by decide) q2_72 (by decide +kernel) rfl, ?_⟩
  refine List.forall_mem_cons.mpr ⟨s_iload (by decide +kernel) rfl, ?_⟩
  refine List.forall_mem_cons.mpr ⟨s_aload_n (j := 0) (by decide +kernel) rfl rfl, ?_⟩
  refine List.forall_mem_cons.mpr ⟨s_getf (idx := 19) (C := RX8) (T := TX8) (N := 10) rfl inX8 (by decide) q2_70 (by decide +kernel) rfl, ?_⟩
  refine List.forall_mem_cons.mpr ⟨s_callv (idx := 197) (k' := k_X2_allWinds) (T := TX2) (N := 20) rfl q3_11 q3_8 q3_9 q3_10 q1_3 de_X2_allWinds (by decide) (by decide +kernel) rfl, ?_⟩
  refine List.forall_mem_cons.mpr ⟨s_callv (idx := 180) (k' := k_X5_prepare) (T := TX5) (N := 7) rfl q3_46 q3_43 q3_44 q3_45 q1_5 de_X5_prepare (by decide) (by decide +kernel) rfl, ?_⟩
  refine List.forall_mem_cons.mpr ⟨s_aload_n (j := 0) (by decide +kernel) rfl rfl, ?_⟩
  refine List.forall_mem_cons.mpr ⟨s_iload_n (j := 2) (by decide +kernel) rfl rfl, ?_⟩
  refine List.forall_mem_cons.mpr ⟨s_iload_n (j := 3) (by decide +kernel) rfl rfl, ?_⟩
  refine List.forall_mem_cons.mpr ⟨s_callv (idx := 203) (k' := k_X8_soonOrDay) (T := TX8) (N := 10) rfl q3_131 q3_128 q3_130 qs_19 q1_1 de_X8_soonOrDay (by decide) (by decide +kernel) rfl, ?_⟩
  refine List.forall_mem_cons.mpr ⟨s_istore (by decide +kernel) (by decide) rfl, ?_⟩
  refine List.forall_mem_cons.mpr ⟨s_aload_n (j := 0) (by decide +kernel) rfl rfl, ?_⟩
  refine List.forall_mem_cons.mpr ⟨s_getf (idx := 19) (C := RX8) (T := TX8) (N := 10) rfl inX8 (by decide) q2_70 (by decide +kernel) rfl, ?_⟩
  refine List.forall_mem_cons.mpr ⟨s_getf (idx := 148) (C := RX2) (T := TX2) (N := 20) rfl inX2 (by decide) q1_95 (by decide +kernel) rfl, ?_⟩
  refine List.forall_mem_cons.mpr ⟨s_iload_n (j := 1) (by decide +kernel) rfl rfl, ?_⟩
  refine List.forall_mem_cons.mpr ⟨s_iald (by decide +kernel) rfl, ?_⟩
  refine List.forall_mem_cons.mpr ⟨s_istore (by decide +kernel) (by decide) rfl, ?_⟩
  refine List.forall_mem_cons.mpr ⟨s_aload_n (j := 0) (by decide +kernel) rfl rfl, ?_⟩
  refine List.forall_mem_cons.mpr ⟨s_getf (idx := 19) (C := RX8) (T := TX8) (N := 10) rfl inX8 (by decide) q2_70 (by decide +kernel) rfl, ?_⟩
  refine List.forall_mem_cons.mpr ⟨s_getf (idx := 145) (C := RX2) (T := TX2) (N := 20) rfl inX2 (by decide) q1_98 (by decide +kernel) rfl, ?_⟩
  refine List.forall_mem_cons.mpr ⟨s_iload_n (j := 1) (by decide +kernel) rfl rfl, ?_⟩
  refine List.forall_mem_cons.mpr ⟨s_iald (by decide +kernel) rfl, ?_⟩
  refine List.forall_mem_cons.mpr ⟨s_istore (by decide +kernel) (by decide) rfl, ?_⟩
  refine List.forall_mem_cons.mpr ⟨s_aload_n (j := 0) (by decide +kernel) rfl rfl, ?_⟩
  refine List.forall_mem_cons.mpr ⟨s_getf (idx := 19) (C := RX8) (T := TX8) (N := 10) rfl inX8 (by decide) q2_70 (by decide +kernel) rfl, ?_⟩
  refine List.forall_mem_cons.mpr ⟨s_getf (idx := 148) (C := RX2) (T := TX2) (N := 20) rfl inX2 (by decide) q1_95 (by decide +kernel) rfl, ?_⟩
  refine List.forall_mem_cons.mpr ⟨s_iload_n (j := 1) (by decide +kernel) rfl rfl, ?_⟩
  refine List.forall_mem_cons.mpr ⟨s_iconst (by decide +kernel) rfl, ?_⟩
  refine List.forall_mem_cons.mpr ⟨s_iast (by decide +kernel) rfl, ?_⟩
  refine List.forall_mem_cons.mpr ⟨s_aload_n (j := 0) (by decide +kernel) rfl rfl, ?_⟩
  refine List.forall_mem_cons.mpr ⟨s_getf (idx := 19) (C := RX8) (T := TX8) (N := 10) rfl inX8 (by decide) q2_70 (by decide +kernel) rfl, ?_⟩
  refine List.forall_mem_cons.mpr ⟨s_getf (idx := 145) (C := RX2) (T := TX2) (N := 20) rfl inX2 (by decide) q1_98 (by decide +kernel) rfl, ?_⟩
  refine List.forall_mem_cons.mpr ⟨s_iload_n (j := 1) (by decide +kernel) rfl rfl, ?_⟩
  refine List.forall_mem_cons.mpr ⟨s_sipush (by decide +kernel) (by decide) rfl, ?_⟩
  refine List.forall_mem_cons.mpr ⟨s_iast (by decide +kernel) rfl, ?_⟩
  refine List.forall_mem_cons.mpr ⟨s_aload_n (j := 0) (by decide +kernel) rfl rfl, ?_⟩
  refine List.forall_mem_cons.mpr ⟨s_iload_n (j := 2) (by decide +kernel) rfl rfl, ?_⟩
  refine List.forall_mem_cons.mpr ⟨s_iload_n (j := 3) (by decide +kernel) rfl rfl, ?_⟩
  refine List.forall_mem_cons.mpr ⟨s_callv (idx := 203) (k' := k_X8_soonOrDay) (T := TX8) (N := 10) rfl q3_131 q3_128 q3_130 qs_19 q1_1 de_X8_soonOrDay (by decide) (by decide +kernel) rfl, ?_⟩
  refine List.forall_mem_cons.mpr ⟨s_istore (by decide +kernel) (by decide) rfl, ?_⟩
  refine List.forall_mem_cons.mpr ⟨s_aload_n (j := 0) (by decide +kernel) rfl rfl, ?_⟩
  refine List.forall_mem_cons.mpr ⟨s_getf (idx := 19) (C := RX8) (T := TX8) (N := 10) rfl inX8 (by decide) q2_70 (by decide +kernel) rfl, ?_⟩
  refine List.forall_mem_cons.mpr ⟨s_getf (idx := 148) (C := RX2) (T := TX2) (N := 20) rfl inX2 (by decide) q1_95 (by decide +kernel) rfl, ?_⟩
  refine List.forall_mem_cons.mpr ⟨s_iload_n (j := 1) (by decide +kernel) rfl rfl, ?_⟩
  refine List.forall_mem_cons.mpr ⟨s_iload (by decide +kernel) rfl, ?_⟩
  refine List.forall_mem_cons.mpr ⟨s_iast (by decide +kernel) rfl, ?_⟩
  refine List.forall_mem_cons.mpr ⟨s_aload_n (j := 0) (by decide +kernel) rfl rfl, ?_⟩
  refine List.forall_mem_cons.mpr ⟨s_getf (idx := 19) (C := RX8) (T := TX8) (N := 10) rfl inX8 (by decide) q2_70 (by decide +kernel) rfl, ?_⟩
  refine List.forall_mem_cons.mpr ⟨s_getf (idx := 145) (C := RX2) (T := TX2) (N := 20) rfl inX2 (by decide) q1_98 (by decide +kernel) rfl, ?_⟩
  refine List.forall_mem_cons.mpr ⟨s_iload_n (j := 1) (by decide +kernel) rfl rfl, ?_⟩
  refine List.forall_mem_cons.mpr ⟨s_iload (by decide +kernel) rfl, ?_⟩
  refine List.forall_mem_cons.mpr ⟨s_iast (by decide +kernel) rfl, ?_⟩
  refine List.forall_mem_cons.mpr ⟨s_iload (by decide +kernel) rfl, ?_⟩
  refine List.forall_mem_cons.mpr ⟨s_iload (by decide +kernel) rfl, ?_⟩
  refine List.forall_mem_cons.mpr ⟨s_isub (by decide +kernel) rfl, ?_⟩
  refine List.forall_mem_cons.mpr ⟨s_iret rfl (by decide +kernel), ?_⟩
  exact fun q hq => absurd hq List.not_mem_nil
def T_X8_higher : List (Nat × zO) := [(0, o_aload 1 0), (1, o_iload 2 1), (2, o_callv 1 8 k_X8_isWay 5), (5, o_if_eq 33 8), (8, o_aload 9 0), (9, o_iload 10 2), (10, o_callv 1 8 k_X8_isFrom 13), (13, o_if_eq 33 16), (16, o_aload 17 0), (17, o_iload 18 3), (18, o_callv 1 8 k_X8_isPlace 21), (21, o_if_eq 33 24), (24, o_aload 25 0), (25, o_iload 27 4), (27, o_callv 1 8 k_X8_isSortAndTide 30), (30, o_if_ne 35 33), (33, o_const 34 (-1)), (34, o_iret), (35, o_aload 36 0), (36, o_getf 39 8 3), (39, o_iload 41 4), (41, o_aload 42 0), (42, o_getf 45 8 1), (45, o_callv 0 2 k_X2_allWinds 48), (48, o_callv 2 5 k_X5_prepare 51), (51, o_aload 52 0), (52, o_iload 53 2), (53, o_iload 54 3), (54, o_callv 2 8 k_X8_soonOrDay 57), (57, o_istore 59 5), (59, o_aload 60 0), (60, o_iload 61 1), (61, o_iload 62 2), (62, o_iload 63 3), (63, o_const 66 200), (66, o_callv 4 8 k_X8_soonLifted 69), (69, o_iload 71 5), (71, o_icmp_lt 77 74), (74, o_const 76 (-2)), (76, o_iret), (77, o_const 78 1), (78, o_istore 80 6), (80, o_const 83 200), (83, o_istore 85 7), (85, o_iload 87 6), (87, o_iload 89 7), (89, o_icmp_ge 131 92), (92, o_iload 94 6), (94, o_iload 96 7), (96, o_iadd 97), (97, o_const 98 2), (98, o_idiv 99), (99, o_istore 101 8), (101, o_aload 102 0), (102, o_iload 103 1), (103, o_iload 104 2), (104, o_iload 105 3), (105, o_iload 107 8), (107, o_callv 4 8 k_X8_soonLifted 110), (110, o_iload 112 5), (112, o_icmp_ge 122 115), (115, o_iload 117 8), (117, o_istore 119 7), (119, o_goto 128), (122, o_iload 124 8), (124, o_const 125 1), (125, o_iadd 126), (126, o_istore 128 6), (128, o_goto 85), (131, o_iload 133 6), (133, o_iret)]
set_option maxRecDepth 20000 in
theorem t_X8_higher : ∀ q ∈ T_X8_higher, zS k_X8_higher q.1 q.2 := by
  unfold T_X8_higher
  refine List.forall_mem_cons.mpr ⟨s_aload_n (j := 0) (by decide +kernel) rfl rfl, ?_⟩
  refine List.forall_mem_cons.mpr ⟨s_iload_n (j := 1) (by decide +kernel) rfl rfl, ?_⟩
  refine List.forall_mem_cons.mpr ⟨s_callv (idx := 142) (k' := k_X8_isWay) (T := TX8) (N := 10) rfl q2_216 q2_213 q2_215 qs_7 q1_1 de_X8_isWay (by decide) (by decide +kernel) rfl, ?_⟩
  refine List.forall_mem_cons.mpr ⟨s_if_eq (off := 28) (by decide +kernel) (by decide) rfl, ?_⟩
  refine List.forall_mem_cons.mpr ⟨s_aload_n (j := 0) (by decide +kernel) rfl rfl, ?_⟩
  refine List.forall_mem_cons.mpr ⟨s_iload_n (j := 2) (by decide +kernel) rfl rfl, ?_⟩
  refine List.forall_mem_cons.mpr ⟨s_callv (idx := 177) (k' := k_X8_isFrom) (T := TX8) (N := 10) rfl q3_42 q3_39 q3_41 qs_11 q1_1 de_X8_isFrom (by decide) (by decide +kernel) rfl, ?_⟩
  refine List.forall_mem_cons.mpr ⟨s_if_eq (off := 20) (by decide +kernel) (by decide) rfl, ?_⟩
  refine List.forall_mem_cons.mpr ⟨s_aload_n (j := 0) (by decide +kernel) rfl rfl, ?_⟩
  refine List.forall_mem_cons.mpr ⟨s_iload_n (j := 3) (by decide +kernel) rfl rfl, ?_⟩
  refine List.forall_mem_cons.mpr ⟨s_callv (idx := 136) (k' := k_X8_isPlace) (T := TX8) (N := 10) rfl q2_187 q2_184 q2_186 qs_5 q1_1 de_X8_isPlace (by decide) (by decide +kernel) rfl, ?_⟩
  refine List.forall_mem_cons.mpr ⟨s_if_eq (off := 12) (by decide +kernel) (by decide) rfl, ?_⟩
  refine List.forall_mem_cons.mpr ⟨s_aload_n (j := 0) (by decide +kernel) rfl rfl, ?_⟩
  refine List.forall_mem_cons.mpr ⟨s_iload (by decide +kernel) rfl, ?_⟩
  refine List.forall_mem_cons.mpr ⟨s_callv (idx := 163) (k' := k_X8_isSortAndTide) (T := TX8) (N := 10) rfl q3_3 q3_0 q3_2 qs_8 q1_1 de_X8_isSortAndTide (by decide) (by decide +kernel) rfl, ?_⟩
  refine List.forall_mem_cons.mpr ⟨s_if_ne (off := 5) (by decide +kernel) (by decide) rfl, ?_⟩
  refine List.forall_mem_cons.mpr ⟨s_iconst (by decide +kernel) rfl, ?_⟩
  refine List.forall_mem_cons.mpr ⟨s_iret rfl (by decide +kernel), ?_⟩
  refine List.forall_mem_cons.mpr ⟨s_aload_n (j := 0) (by decide +kernel) rfl rfl, ?_⟩
  refine List.forall_mem_cons.mpr ⟨s_getf (idx := 37) (C := RX8) (T := TX8) (N := 10) rfl inX8 (by decide) q2_72 (by decide +kernel) rfl, ?_⟩
  refine List.forall_mem_cons.mpr ⟨s_iload (by decide +kernel) rfl, ?_⟩
  refine List.forall_mem_cons.mpr ⟨s_aload_n (j := 0) (by decide +kernel) rfl rfl, ?_⟩
  refine List.forall_mem_cons.mpr ⟨s_getf (idx := 19) (C := RX8) (T := TX8) (N := 10) rfl inX8 (by decide) q2_70 (by decide +kernel) rfl, ?_⟩
  refine List.forall_mem_cons.mpr ⟨s_callv (idx := 197) (k' := k_X2_allWinds) (T := TX2) (N := 20) rfl q3_11 q3_8 q3_9 q3_10 q1_3 de_X2_allWinds (by decide) (by decide +kernel) rfl, ?_⟩
  refine List.forall_mem_cons.mpr ⟨s_callv (idx := 180) (k' := k_X5_prepare) (T := TX5) (N := 7) rfl q3_46 q3_43 q3_44 q3_45 q1_5 de_X5_prepare (by decide) (by decide +kernel) rfl, ?_⟩
  refine List.forall_mem_cons.mpr ⟨s_aload_n (j := 0) (by decide +kernel) rfl rfl, ?_⟩
  refine List.forall_mem_cons.mpr ⟨s_iload_n (j := 2) (by decide +kernel) rfl rfl, ?_⟩
  refine List.forall_mem_cons.mpr ⟨s_iload_n (j := 3) (by decide +kernel) rfl rfl, ?_⟩
  refine List.forall_mem_cons.mpr ⟨s_callv (idx := 203) (k' := k_X8_soonOrDay) (T := TX8) (N := 10) rfl q3_131 q3_128 q3_130 qs_19 q1_1 de_X8_soonOrDay (by decide) (by decide +kernel) rfl, ?_⟩
  refine List.forall_mem_cons.mpr ⟨s_istore (by decide +kernel) (by decide) rfl, ?_⟩
  refine List.forall_mem_cons.mpr ⟨s_aload_n (j := 0) (by decide +kernel) rfl rfl, ?_⟩
  refine List.forall_mem_cons.mpr ⟨s_iload_n (j := 1) (by decide +kernel) rfl rfl, ?_⟩
  refine List.forall_mem_cons.mpr ⟨s_iload_n (j := 2) (by decide +kernel) rfl rfl, ?_⟩
  refine List.forall_mem_cons.mpr ⟨s_iload_n (j := 3) (by decide +kernel) rfl rfl, ?_⟩
  refine List.forall_mem_cons.mpr ⟨s_sipush (by decide +kernel) (by decide) rfl, ?_⟩
  refine List.forall_mem_cons.mpr ⟨s_callv (idx := 206) (k' := k_X8_soonLifted) (T := TX8) (N := 10) rfl q3_139 q3_136 q3_138 qs_20 q1_1 de_X8_soonLifted (by decide) (by decide +kernel) rfl, ?_⟩
  refine List.forall_mem_cons.mpr ⟨s_iload (by decide +kernel) rfl, ?_⟩
  refine List.forall_mem_cons.mpr ⟨s_icmp_lt (off := 6) (by decide +kernel) (by decide) rfl, ?_⟩
  refine List.forall_mem_cons.mpr ⟨s_bipush (by decide +kernel) (by decide) rfl, ?_⟩
  refine List.forall_mem_cons.mpr ⟨s_iret rfl (by decide +kernel), ?_⟩
  refine List.forall_mem_cons.mpr ⟨s_iconst (by decide +kernel) rfl, ?_⟩
  refine List.forall_mem_cons.mpr ⟨s_istore (by decide +kernel) (by decide) rfl, ?_⟩
  refine List.forall_mem_cons.mpr ⟨s_sipush (by decide +kernel) (by decide) rfl, ?_⟩
  refine List.forall_mem_cons.mpr ⟨s_istore (by decide +kernel) (by decide) rfl, ?_⟩
  refine List.forall_mem_cons.mpr ⟨s_iload (by decide +kernel) rfl, ?_⟩
  refine List.forall_mem_cons.mpr ⟨s_iload (by decide +kernel) rfl, ?_⟩
  refine List.forall_mem_cons.mpr ⟨s_icmp_ge (off := 42) (by decide +kernel) (by decide) rfl, ?_⟩
  refine List.forall_mem_cons.mpr ⟨s_iload (by decide +kernel) rfl, ?_⟩
  refine List.forall_mem_cons.mpr ⟨s_iload (by decide +kernel) rfl, ?_⟩
  refine List.forall_mem_cons.mpr ⟨s_iadd (by decide +kernel) rfl, ?_⟩
  refine List.forall_mem_cons.mpr ⟨s_iconst (by decide +kernel) rfl, ?_⟩
  refine List.forall_mem_cons.mpr ⟨s_idiv (by decide +kernel) rfl, ?_⟩
  refine List.forall_mem_cons.mpr ⟨s_istore (by decide +kernel) (by decide) rfl, ?_⟩
  refine List.forall_mem_cons.mpr ⟨s_aload_n (j := 0) (by decide +kernel) rfl rfl, ?_⟩
  refine List.forall_mem_cons.mpr ⟨s_iload_n (j := 1) (by decide +kernel) rfl rfl, ?_⟩
  refine List.forall_mem_cons.mpr ⟨s_iload_n (j := 2) (by decide +kernel) rfl rfl, ?_⟩
  refine List.forall_mem_cons.mpr ⟨s_iload_n (j := 3) (by decide +kernel) rfl rfl, ?_⟩
  refine List.forall_mem_cons.mpr ⟨s_iload (by decide +kernel) rfl, ?_⟩
  refine List.forall_mem_cons.mpr ⟨s_callv (idx := 206) (k' := k_X8_soonLifted) (T := TX8) (N := 10) rfl q3_139 q3_136 q3_138 qs_20 q1_1 de_X8_soonLifted (by decide) (by decide +kernel) rfl, ?_⟩
  refine List.forall_mem_cons.mpr ⟨s_iload (by decide +kernel) rfl, ?_⟩
  refine List.forall_mem_cons.mpr ⟨s_icmp_ge (off := 10) (by decide +kernel) (by decide) rfl, ?_⟩
  refine List.forall_mem_cons.mpr ⟨s_iload (by decide +kernel) rfl, ?_⟩
  refine List.forall_mem_cons.mpr ⟨s_istore (by decide +kernel) (by decide) rfl, ?_⟩
  refine List.forall_mem_cons.mpr ⟨s_goto (off := 9) (by decide +kernel) (by decide), ?_⟩
  refine List.forall_mem_cons.mpr ⟨s_iload (by decide +kernel) rfl, ?_⟩
  refine List.forall_mem_cons.mpr ⟨s_iconst (by decide +kernel) rfl, ?_⟩
  refine List.forall_mem_cons.mpr ⟨s_iadd (by decide +kernel) rfl, ?_⟩
  refine List.forall_mem_cons.mpr ⟨s_istore (by decide +kernel) (by decide) rfl, ?_⟩
  refine List.forall_mem_cons.mpr ⟨s_goto (off := (-43)) (by decide +kernel) (by decide), ?_⟩
  refine List.forall_mem_cons.mpr ⟨s_iload (by decide +kernel) rfl, ?_⟩
  refine List.forall_mem_cons.mpr ⟨s_iret rfl (by decide +kernel), ?_⟩
  exact fun q hq => absurd hq List.not_mem_nil
def T_X8_must : List (Nat × zO) := [(0, o_aload 1 0), (1, o_iload 2 1), (2, o_callv 1 8 k_X8_isFrom 5), (5, o_if_eq 24 8), (8, o_aload 9 0), (9, o_iload 10 2), (10, o_callv 1 8 k_X8_isPlace 13), (13, o_if_eq 24 16), (16, o_aload 17 0), (17, o_iload 18 3), (18, o_callv 1 8 k_X8_isSortAndTide 21), (21, o_if_ne 26 24), (24, o_const 25 (-1)), (25, o_iret), (26, o_aload 27 0), (27, o_getf 30 8 3), (30, o_iload 31 3), (31, o_aload 32 0), (32, o_getf 35 8 1), (35, o_callv 0 2 k_X2_allWinds 38), (38, o_callv 2 5 k_X5_prepare 41), (41, o_aload 42 0), (42, o_getf 45 8 3), (45, o_iload 46 1), (46, o_iload 47 2), (47, o_aload 48 0), (48, o_getf 51 8 1), (51, o_getf 54 2 19), (54, o_callv 3 5 k_X5_soonest 57), (57, o_const 59 (-2)), (59, o_icmp_ne 65 62), (62, o_const 64 (-2)), (64, o_iret), (65, o_const 66 0), (66, o_istore 68 4), (68, o_const 69 0), (69, o_istore 71 5), (71, o_iload 73 5), (73, o_aload 74 0), (74, o_getf 77 8 1), (77, o_getf 80 2 8), (80, o_icmp_ge 128 83), (83, o_aload 84 0), (84, o_getf 87 8 3), (87, o_iload 89 5), (89, o_callv 1 5 k_X5_barWaiting 92), (92, o_aload 93 0), (93, o_getf 96 8 3), (96, o_iload 97 1), (97, o_iload 98 2), (98, o_aload 99 0), (99, o_getf 102 8 1), (102, o_getf 105 2 19), (105, o_callv 3 5 k_X5_soonest 108), (108, o_const 110 (-2)), (110, o_icmp_ne 122 113), (113, o_iload 115 4), (115, o_const 116 1), (116, o_iload 118 5), (118, o_ishl 119), (119, o_ior 120), (120, o_istore 122 4), (122, o_iinc 125 5 1), (125, o_goto 71), (128, o_iload 130 4), (130, o_iret)]
set_option maxRecDepth 20000 in
theorem t_X8_must : ∀ q ∈ T_X8_must, zS k_X8_must q.1 q.2 := by
  unfold T_X8_must
  refine List.forall_mem_cons.mpr ⟨s_aload_n (j := 0) (by decide +kernel) rfl rfl, ?_⟩
  refine List.forall_mem_cons.mpr ⟨s_iload_n (j := 1) (by decide +kernel) rfl rfl, ?_⟩
  refine List.forall_mem_cons.mpr ⟨s_callv (idx := 177) (k' := k_X8_isFrom) (T := TX8) (N := 10) rfl q3_42 q3_39 q3_41 qs_11 q1_1 de_X8_isFrom (by decide) (by decide +kernel) rfl, ?_⟩
  refine List.forall_mem_cons.mpr ⟨s_if_eq (off := 19) (by decide +kernel) (by decide) rfl, ?_⟩
  refine List.forall_mem_cons.mpr ⟨s_aload_n (j := 0) (by decide +kernel) rfl rfl, ?_⟩
  refine List.forall_mem_cons.mpr ⟨s_iload_n (j := 2) (by decide +kernel) rfl rfl, ?_⟩
  refine List.forall_mem_cons.mpr ⟨s_callv (idx := 136) (k' := k_X8_isPlace) (T := TX8) (N := 10) rfl q2_187 q2_184 q2_186 qs_5 q1_1 de_X8_isPlace (by decide) (by decide +kernel) rfl, ?_⟩
  refine List.forall_mem_cons.mpr ⟨s_if_eq (off := 11) (by decide +kernel) (by decide) rfl, ?_⟩
  refine List.forall_mem_cons.mpr ⟨s_aload_n (j := 0) (by decide +kernel) rfl rfl, ?_⟩
  refine List.forall_mem_cons.mpr ⟨s_iload_n (j := 3) (by decide +kernel) rfl rfl, ?_⟩
  refine List.forall_mem_cons.mpr ⟨s_callv (idx := 163) (k' := k_X8_isSortAndTide) (T := TX8) (N := 10) rfl q3_3 q3_0 q3_2 qs_8 q1_1 de_X8_isSortAndTide (by decide) (by decide +kernel) rfl, ?_⟩
  refine List.forall_mem_cons.mpr ⟨s_if_ne (off := 5) (by decide +kernel) (by decide) rfl, ?_⟩
  refine List.forall_mem_cons.mpr ⟨s_iconst (by decide +kernel) rfl, ?_⟩
  refine List.forall_mem_cons.mpr ⟨s_iret rfl (by decide +kernel), ?_⟩
  refine List.forall_mem_cons.mpr ⟨s_aload_n (j := 0) (by decide +kernel) rfl rfl, ?_⟩
  refine List.forall_mem_cons.mpr ⟨s_getf (idx := 37) (C := RX8) (T := TX8) (N := 10) rfl inX8 (by decide) q2_72 (by decide +kernel) rfl, ?_⟩
  refine List.forall_mem_cons.mpr ⟨s_iload_n (j := 3) (by decide +kernel) rfl rfl, ?_⟩
  refine List.forall_mem_cons.mpr ⟨s_aload_n (j := 0) (by decide +kernel) rfl rfl, ?_⟩
  refine List.forall_mem_cons.mpr ⟨s_getf (idx := 19) (C := RX8) (T := TX8) (N := 10) rfl inX8 (by decide) q2_70 (by decide +kernel) rfl, ?_⟩
  refine List.forall_mem_cons.mpr ⟨s_callv (idx := 197) (k' := k_X2_allWinds) (T := TX2) (N := 20) rfl q3_11 q3_8 q3_9 q3_10 q1_3 de_X2_allWinds (by decide) (by decide +kernel) rfl, ?_⟩
  refine List.forall_mem_cons.mpr ⟨s_callv (idx := 180) (k' := k_X5_prepare) (T := TX5) (N := 7) rfl q3_46 q3_43 q3_44 q3_45 q1_5 de_X5_prepare (by decide) (by decide +kernel) rfl, ?_⟩
  refine List.forall_mem_cons.mpr ⟨s_aload_n (j := 0) (by decide +kernel) rfl rfl, ?_⟩
  refine List.forall_mem_cons.mpr ⟨s_getf (idx := 37) (C := RX8) (T := TX8) (N := 10) rfl inX8 (by decide) q2_72 (by decide +kernel) rfl, ?_⟩
  refine List.forall_mem_cons.mpr ⟨s_iload_n (j := 1) (by decide +kernel) rfl rfl, ?_⟩
  refine List.forall_mem_cons.mpr ⟨s_iload_n (j := 2) (by decide +kernel) rfl rfl, ?_⟩
  refine List.forall_mem_cons.mpr ⟨s_aload_n (j := 0) (by decide +kernel) rfl rfl, ?_⟩
  refine List.forall_mem_cons.mpr ⟨s_getf (idx := 19) (C := RX8) (T := TX8) (N := 10) rfl inX8 (by decide) q2_70 (by decide +kernel) rfl, ?_⟩
  refine List.forall_mem_cons.mpr ⟨s_getf (idx := 154) (C := RX2) (T := TX2) (N := 20) rfl inX2 (by decide) q1_105 (by decide +kernel) rfl, ?_⟩
  refine List.forall_mem_cons.mpr ⟨s_callv (idx := 183) (k' := k_X5_soonest) (T := TX5) (N := 7) rfl q3_53 q3_50 q3_51 q3_52 q1_5 de_X5_soonest (by decide) (by decide +kernel) rfl, ?_⟩
  refine List.forall_mem_cons.mpr ⟨s_bipush (by decide +kernel) (by decide) rfl, ?_⟩
  refine List.forall_mem_cons.mpr ⟨s_icmp_ne (off := 6) (by decide +kernel) (by decide) rfl, ?_⟩
  refine List.forall_mem_cons.mpr ⟨s_bipush (by decide +kernel) (by decide) rfl, ?_⟩
  refine List.forall_mem_cons.mpr ⟨s_iret rfl (by decide +kernel), ?_⟩
  refine List.forall_mem_cons.mpr ⟨s_iconst (by decide +kernel) rfl, ?_⟩
  refine List.forall_mem_cons.mpr ⟨s_istore (by decide +kernel) (by decide) rfl, ?_⟩
  refine List.forall_mem_cons.mpr ⟨s_iconst (by decide +kernel) rfl, ?_⟩
  refine List.forall_mem_cons.mpr ⟨s_istore (by decide +kernel) (by decide) rfl, ?_⟩
  refine List.forall_mem_cons.mpr ⟨s_iload (by decide +kernel) rfl, ?_⟩
  refine List.forall_mem_cons.mpr ⟨s_aload_n (j := 0) (by decide +kernel) rfl rfl, ?_⟩
  refine List.forall_mem_cons.mpr ⟨s_getf (idx := 19) (C := RX8) (T := TX8) (N := 10) rfl inX8 (by decide) q2_70 (by decide +kernel) rfl, ?_⟩
  refine List.forall_mem_cons.mpr ⟨s_getf (idx := 120) (C := RX2) (T := TX2) (N := 20) rfl inX2 (by decide) q1_71 (by decide +kernel) rfl, ?_⟩
  refine List.forall_mem_cons.mpr ⟨s_icmp_ge (off := 48) (by decide +kernel) (by decide) rfl, ?_⟩
  refine List.forall_mem_cons.mpr ⟨s_aload_n (j := 0) (by decide +kernel) rfl rfl, ?_⟩
  refine List.forall_mem_cons.mpr ⟨s_getf (idx := 37) (C := RX8) (T := TX8) (N := 10) rfl inX8 (by decide) q2_72 (by decide +kernel) rfl, ?_⟩
  refine List.forall_mem_cons.mpr ⟨s_iload (by decide +kernel) rfl, ?_⟩
  refine List.forall_mem_cons.mpr ⟨s_callv (idx := 209) (k' := k_X5_barWaiting) (T := TX5) (N := 7) rfl q3_147 q3_144 q3_145 q3_146 q1_5 de_X5_barWaiting (by decide) (by decide +kernel) rfl, ?_⟩
  refine List.forall_mem_cons.mpr ⟨s_aload_n (j := 0) (by decide +kernel) rfl rfl, ?_⟩
  refine List.forall_mem_cons.mpr ⟨s_getf (idx := 37) (C := RX8) (T := TX8) (N := 10) rfl inX8 (by decide) q2_72 (by decide +kernel) rfl, ?_⟩
  refine List.forall_mem_cons.mpr ⟨s_iload_n (j := 1) (by decide +kernel) rfl rfl, ?_⟩
  refine List.forall_mem_cons.mpr ⟨s_iload_n (j := 2) (by decide +kernel) rfl rfl, ?_⟩
  refine List.forall_mem_cons.mpr ⟨s_aload_n (j := 0) (by decide +kernel) rfl rfl, ?_⟩
  refine List.forall_mem_cons.mpr ⟨s_getf (idx := 19) (C := RX8) (T := TX8) (N := 10) rfl inX8 (by decide) q2_70 (by decide +kernel) rfl, ?_⟩
  refine List.forall_mem_cons.mpr ⟨s_getf (idx := 154) (C := RX2) (T := TX2) (N := 20) rfl inX2 (by decide) q1_105 (by decide +kernel) rfl, ?_⟩
  refine List.forall_mem_cons.mpr ⟨s_callv (idx := 183) (k' := k_X5_soonest) (T := TX5) (N := 7) rfl q3_53 q3_50 q3_51 q3_52 q1_5 de_X5_soonest (by decide) (by decide +kernel) rfl, ?_⟩
  refine List.forall_mem_cons.mpr ⟨s_bipush (by decide +kernel) (by decide) rfl, ?_⟩
  refine List.forall_mem_cons.mpr ⟨s_icmp_ne (off := 12) (by decide +kernel) (by decide) rfl, ?_⟩
  refine List.forall_mem_cons.mpr ⟨s_iload (by decide +kernel) rfl, ?_⟩
  refine List.forall_mem_cons.mpr ⟨s_iconst (by decide +kernel) rfl, ?_⟩
  refine List.forall_mem_cons.mpr ⟨s_iload (by decide +kernel) rfl, ?_⟩
  refine List.forall_mem_cons.mpr ⟨s_ishl (by decide +kernel) rfl, ?_⟩
  refine List.forall_mem_cons.mpr ⟨s_ior (by decide +kernel) rfl, ?_⟩
  refine List.forall_mem_cons.mpr ⟨s_istore (by decide +kernel) (by decide) rfl, ?_⟩
  refine List.forall_mem_cons.mpr ⟨s_iinc (by decide +kernel) (by decide) rfl, ?_⟩
  refine List.forall_mem_cons.mpr ⟨s_goto (off := (-54)) (by decide +kernel) (by decide), ?_⟩
  refine List.forall_mem_cons.mpr ⟨s_iload (by decide +kernel) rfl, ?_⟩
  refine List.forall_mem_cons.mpr ⟨s_iret rfl (by decide +kernel), ?_⟩
  exact fun q hq => absurd hq List.not_mem_nil
def T_X8_move : List (Nat × zO) := [(0, o_aload 1 0), (1, o_iload 2 1), (2, o_callv 1 8 k_X8_isMove 5), (5, o_if_ne 10 8), (8, o_const 9 (-1)), (9, o_iret), (10, o_aload 11 0), (11, o_getf 14 8 4), (14, o_iload 15 1), (15, o_callv 1 3 k_X3_add 18), (18, o_if_eq 31 21), (21, o_aload 22 0), (22, o_getf 25 8 4), (25, o_getf 28 3 3), (28, o_goto 33), (31, o_const 33 (-3)), (33, o_iret)]
set_option maxRecDepth 20000 in
theorem t_X8_move : ∀ q ∈ T_X8_move, zS k_X8_move q.1 q.2 := by
  unfold T_X8_move
  refine List.forall_mem_cons.mpr ⟨s_aload_n (j := 0) (by decide +kernel) rfl rfl, ?_⟩
  refine List.forall_mem_cons.mpr ⟨s_iload_n (j := 1) (by decide +kernel) rfl rfl, ?_⟩
  refine List.forall_mem_cons.mpr ⟨s_callv (idx := 213) (k' := k_X8_isMove) (T := TX8) (N := 10) rfl q3_155 q3_152 q3_154 qs_21 q1_1 de_X8_isMove (by decide) (by decide +kernel) rfl, ?_⟩
  refine List.forall_mem_cons.mpr ⟨s_if_ne (off := 5) (by decide +kernel) (by decide) rfl, ?_⟩
  refine List.forall_mem_cons.mpr ⟨s_iconst (by decide +kernel) rfl, ?_⟩
  refine List.forall_mem_cons.mpr ⟨s_iret rfl (by decide +kernel), ?_⟩
  refine List.forall_mem_cons.mpr ⟨s_aload_n (j := 0) (by decide +kernel) rfl rfl, ?_⟩
  refine List.forall_mem_cons.mpr ⟨s_getf (idx := 44) (C := RX8) (T := TX8) (N := 10) rfl inX8 (by decide) q2_73 (by decide +kernel) rfl, ?_⟩
  refine List.forall_mem_cons.mpr ⟨s_iload_n (j := 1) (by decide +kernel) rfl rfl, ?_⟩
  refine List.forall_mem_cons.mpr ⟨s_callv (idx := 216) (k' := k_X3_add) (T := TX3) (N := 7) rfl q3_159 q3_156 q3_157 q3_158 q1_6 de_X3_add (by decide) (by decide +kernel) rfl, ?_⟩
  refine List.forall_mem_cons.mpr ⟨s_if_eq (off := 13) (by decide +kernel) (by decide) rfl, ?_⟩
  refine List.forall_mem_cons.mpr ⟨s_aload_n (j := 0) (by decide +kernel) rfl rfl, ?_⟩
  refine List.forall_mem_cons.mpr ⟨s_getf (idx := 44) (C := RX8) (T := TX8) (N := 10) rfl inX8 (by decide) q2_73 (by decide +kernel) rfl, ?_⟩
  refine List.forall_mem_cons.mpr ⟨s_getf (idx := 218) (C := RX3) (T := TX3) (N := 7) rfl inX3 (by decide) q1_209 (by decide +kernel) rfl, ?_⟩
  refine List.forall_mem_cons.mpr ⟨s_goto (off := 5) (by decide +kernel) (by decide), ?_⟩
  refine List.forall_mem_cons.mpr ⟨s_bipush (by decide +kernel) (by decide) rfl, ?_⟩
  refine List.forall_mem_cons.mpr ⟨s_iret rfl (by decide +kernel), ?_⟩
  exact fun q hq => absurd hq List.not_mem_nil
def T_X8_moves : List (Nat × zO) := [(0, o_iload 1 1), (1, o_calls 1 k_X8_isShelf 4), (4, o_if_eq 17 7), (7, o_iload 8 3), (8, o_const 9 1), (9, o_const 11 12), (11, o_calls 3 k_X8_within 14), (14, o_if_ne 19 17), (17, o_const 18 (-1)), (18, o_iret), (19, o_aload 20 0), (20, o_getf 23 8 7), (23, o_iload 24 1), (24, o_aald 25), (25, o_astore 27 4), (27, o_aload 29 4), (29, o_getf 32 6 0), (32, o_const 33 (-1)), (33, o_icmp_ne 38 36), (36, o_const 37 0), (37, o_iret), (38, o_aload 40 4), (40, o_getf 43 6 0), (43, o_const 44 1), (44, o_icmp_eq 50 47), (47, o_const 49 (-12)), (49, o_iret), (50, o_const 51 0), (51, o_istore 53 5), (53, o_iload 55 5), (55, o_iload 56 3), (56, o_icmp_ge 116 59), (59, o_aload 61 4), (61, o_iload 62 2), (62, o_iload 64 5), (64, o_iadd 65), (65, o_callv 1 6 k_X6_has 68), (68, o_if_eq 116 71), (71, o_aload 72 0), (72, o_aload 74 4), (74, o_getf 77 6 2), (77, o_iload 78 2), (78, o_iload 80 5), (80, o_iadd 81), (81, o_lald 82), (82, o_l2i 83), (83, o_callv 1 8 k_X8_isMove 86), (86, o_if_eq 116 89), (89, o_aload 90 0), (90, o_getf 93 8 4), (93, o_aload 95 4), (95, o_getf 98 6 2), (98, o_iload 99 2), (99, o_iload 101 5), (101, o_iadd 102), (102, o_lald 103), (103, o_l2i 104), (104, o_callv 1 3 k_X3_add 107), (107, o_if_eq 116 110), (110, o_iinc 113 5 1), (113, o_goto 53), (116, o_iload 118 5), (118, o_iret)]
set_option maxRecDepth 20000 in
theorem t_X8_moves : ∀ q ∈ T_X8_moves, zS k_X8_moves q.1 q.2 := by
  unfold T_X8_moves
  refine List.forall_mem_cons.mpr ⟨s_iload_n (j := 1) (by decide +kernel) rfl rfl, ?_⟩
  refine List.forall_mem_cons.mpr ⟨s_calls (idx := 221) (k' := k_X8_isShelf) q3_166 q3_164 q3_165 q1_1 de_X8_isShelf (by decide) (by decide +kernel) rfl, ?_⟩
  refine List.forall_mem_cons.mpr ⟨s_if_eq (off := 13) (by decide +kernel) (by decide) rfl, ?_⟩
  refine List.forall_mem_cons.mpr ⟨s_iload_n (j := 3) (by decide +kernel) rfl rfl, ?_⟩
  refine List.forall_mem_cons.mpr ⟨s_iconst (by decide +kernel) rfl, ?_⟩
  refine List.forall_mem_cons.mpr ⟨s_bipush (by decide +kernel) (by decide) rfl, ?_⟩
  refine List.forall_mem_cons.mpr ⟨s_calls (idx := 101) (k' := k_X8_within) q2_145 q2_143 q2_144 q1_1 de_X8_within (by decide) (by decide +kernel) rfl, ?_⟩
  refine List.forall_mem_cons.mpr ⟨s_if_ne (off := 5) (by decide +kernel) (by decide) rfl, ?_⟩
  refine List.forall_mem_cons.mpr ⟨s_iconst (by decide +kernel) rfl, ?_⟩
  refine List.forall_mem_cons.mpr ⟨s_iret rfl (by decide +kernel), ?_⟩
  refine List.forall_mem_cons.mpr ⟨s_aload_n (j := 0) (by decide +kernel) rfl rfl, ?_⟩
  refine List.forall_mem_cons.mpr ⟨s_getf (idx := 64) (C := RX8) (T := TX8) (N := 10) rfl inX8 (by decide) q2_76 (by decide +kernel) rfl, ?_⟩
  refine List.forall_mem_cons.mpr ⟨s_iload_n (j := 1) (by decide +kernel) rfl rfl, ?_⟩
  refine List.forall_mem_cons.mpr ⟨s_aald (by decide +kernel) rfl, ?_⟩
  refine List.forall_mem_cons.mpr ⟨s_astore (by decide +kernel) (by decide) rfl, ?_⟩
  refine List.forall_mem_cons.mpr ⟨s_aload (by decide +kernel) rfl, ?_⟩
  refine List.forall_mem_cons.mpr ⟨s_getf (idx := 224) (C := RX6) (T := TX6) (N := 4) rfl inX6 (by decide) q2_54 (by decide +kernel) rfl, ?_⟩
  refine List.forall_mem_cons.mpr ⟨s_iconst (by decide +kernel) rfl, ?_⟩
  refine List.forall_mem_cons.mpr ⟨s_icmp_ne (off := 5) (by decide +kernel) (by decide) rfl, ?_⟩
  refine List.forall_mem_cons.mpr ⟨s_iconst (by decide +kernel) rfl, ?_⟩
  refine List.forall_mem_cons.mpr ⟨s_iret rfl (by decide +kernel), ?_⟩
  refine List.forall_mem_cons.mpr ⟨s_aload (by decide +kernel) rfl, ?_⟩
  refine List.forall_mem_cons.mpr ⟨s_getf (idx := 224) (C := RX6) (T := TX6) (N := 4) rfl inX6 (by decide) q2_54 (by decide +kernel) rfl, ?_⟩
  refine List.forall_mem_cons.mpr ⟨s_iconst (by decide +kernel) rfl, ?_⟩
  refine List.forall_mem_cons.mpr ⟨s_icmp_eq (off := 6) (by decide +kernel) (by decide) rfl, ?_⟩
  refine List.forall_mem_cons.mpr ⟨s_bipush (by decide +kernel) (by decide) rfl, ?_⟩
  refine List.forall_mem_cons.mpr ⟨s_iret rfl (by decide +kernel), ?_⟩
  refine List.forall_mem_cons.mpr ⟨s_iconst (by decide +kernel) rfl, ?_⟩
  refine List.forall_mem_cons.mpr ⟨s_istore (by decide +kernel) (by decide) rfl, ?_⟩
  refine List.forall_mem_cons.mpr ⟨s_iload (by decide +kernel) rfl, ?_⟩
  refine List.forall_mem_cons.mpr ⟨s_iload_n (j := 3) (by decide +kernel) rfl rfl, ?_⟩
  refine List.forall_mem_cons.mpr ⟨s_icmp_ge (off := 60) (by decide +kernel) (by decide) rfl, ?_⟩
  refine List.forall_mem_cons.mpr ⟨s_aload (by decide +kernel) rfl, ?_⟩
  refine List.forall_mem_cons.mpr ⟨s_iload_n (j := 2) (by decide +kernel) rfl rfl, ?_⟩
  refine List.forall_mem_cons.mpr ⟨s_iload (by decide +kernel) rfl, ?_⟩
  refine List.forall_mem_cons.mpr ⟨s_iadd (by decide +kernel) rfl, ?_⟩
  refine List.forall_mem_cons.mpr ⟨s_callv (idx := 227) (k' := k_X6_has) (T := TX6) (N := 4) rfl q3_170 q3_167 q3_168 q3_169 q1_9 de_X6_has (by decide) (by decide +kernel) rfl, ?_⟩
  refine List.forall_mem_cons.mpr ⟨s_if_eq (off := 48) (by decide +kernel) (by decide) rfl, ?_⟩
  refine List.forall_mem_cons.mpr ⟨s_aload_n (j := 0) (by decide +kernel) rfl rfl, ?_⟩
  refine List.forall_mem_cons.mpr ⟨s_aload (by decide +kernel) rfl, ?_⟩
  refine List.forall_mem_cons.mpr ⟨s_getf (idx := 230) (C := RX6) (T := TX6) (N := 4) rfl inX6 (by decide) q2_58 (by decide +kernel) rfl, ?_⟩
  refine List.forall_mem_cons.mpr ⟨s_iload_n (j := 2) (by decide +kernel) rfl rfl, ?_⟩
  refine List.forall_mem_cons.mpr ⟨s_iload (by decide +kernel) rfl, ?_⟩
  refine List.forall_mem_cons.mpr ⟨s_iadd (by decide +kernel) rfl, ?_⟩
  refine List.forall_mem_cons.mpr ⟨s_lald (by decide +kernel) rfl, ?_⟩
  refine List.forall_mem_cons.mpr ⟨s_l2i (by decide +kernel) rfl, ?_⟩
  refine List.forall_mem_cons.mpr ⟨s_callv (idx := 213) (k' := k_X8_isMove) (T := TX8) (N := 10) rfl q3_155 q3_152 q3_154 qs_21 q1_1 de_X8_isMove (by decide) (by decide +kernel) rfl, ?_⟩
  refine List.forall_mem_cons.mpr ⟨s_if_eq (off := 30) (by decide +kernel) (by decide) rfl, ?_⟩
  refine List.forall_mem_cons.mpr ⟨s_aload_n (j := 0) (by decide +kernel) rfl rfl, ?_⟩
  refine List.forall_mem_cons.mpr ⟨s_getf (idx := 44) (C := RX8) (T := TX8) (N := 10) rfl inX8 (by decide) q2_73 (by decide +kernel) rfl, ?_⟩
  refine List.forall_mem_cons.mpr ⟨s_aload (by decide +kernel) rfl, ?_⟩
  refine List.forall_mem_cons.mpr ⟨s_getf (idx := 230) (C := RX6) (T := TX6) (N := 4) rfl inX6 (by decide) q2_58 (by decide +kernel) rfl, ?_⟩
  refine List.forall_mem_cons.mpr ⟨s_iload_n (j := 2) (by decide +kernel) rfl rfl, ?_⟩
  refine List.forall_mem_cons.mpr ⟨s_iload (by decide +kernel) rfl, ?_⟩
  refine List.forall_mem_cons.mpr ⟨s_iadd (by decide +kernel) rfl, ?_⟩
  refine List.forall_mem_cons.mpr ⟨s_lald (by decide +kernel) rfl, ?_⟩
  refine List.forall_mem_cons.mpr ⟨s_l2i (by decide +kernel) rfl, ?_⟩
  refine List.forall_mem_cons.mpr ⟨s_callv (idx := 216) (k' := k_X3_add) (T := TX3) (N := 7) rfl q3_159 q3_156 q3_157 q3_158 q1_6 de_X3_add (by decide) (by decide +kernel) rfl, ?_⟩
  refine List.forall_mem_cons.mpr ⟨s_if_eq (off := 9) (by decide +kernel) (by decide) rfl, ?_⟩
  refine List.forall_mem_cons.mpr ⟨s_iinc (by decide +kernel) (by decide) rfl, ?_⟩
  refine List.forall_mem_cons.mpr ⟨s_goto (off := (-60)) (by decide +kernel) (by decide), ?_⟩
  refine List.forall_mem_cons.mpr ⟨s_iload (by decide +kernel) rfl, ?_⟩
  refine List.forall_mem_cons.mpr ⟨s_iret rfl (by decide +kernel), ?_⟩
  exact fun q hq => absurd hq List.not_mem_nil
def T_X8_drop : List (Nat × zO) := [(0, o_aload 1 0), (1, o_getf 4 8 4), (4, o_getf 7 3 3), (7, o_istore 8 1), (8, o_aload 9 0), (9, o_getf 12 8 4), (12, o_const 13 0), (13, o_putf 16 3 3), (16, o_iload 17 1), (17, o_iret)]
set_option maxRecDepth 20000 in
theorem t_X8_drop : ∀ q ∈ T_X8_drop, zS k_X8_drop q.1 q.2 := by
  unfold T_X8_drop
  refine List.forall_mem_cons.mpr ⟨s_aload_n (j := 0) (by decide +kernel) rfl rfl, ?_⟩
  refine List.forall_mem_cons.mpr ⟨s_getf (idx := 44) (C := RX8) (T := TX8) (N := 10) rfl inX8 (by decide) q2_73 (by decide +kernel) rfl, ?_⟩
  refine List.forall_mem_cons.mpr ⟨s_getf (idx := 218) (C := RX3) (T := TX3) (N := 7) rfl inX3 (by decide) q1_209 (by decide +kernel) rfl, ?_⟩
  refine List.forall_mem_cons.mpr ⟨s_istore_n (j := 1) (by decide +kernel) rfl (by decide) rfl, ?_⟩
  refine List.forall_mem_cons.mpr ⟨s_aload_n (j := 0) (by decide +kernel) rfl rfl, ?_⟩
  refine List.forall_mem_cons.mpr ⟨s_getf (idx := 44) (C := RX8) (T := TX8) (N := 10) rfl inX8 (by decide) q2_73 (by decide +kernel) rfl, ?_⟩
  refine List.forall_mem_cons.mpr ⟨s_iconst (by decide +kernel) rfl, ?_⟩
  refine List.forall_mem_cons.mpr ⟨s_putf (idx := 218) (C := RX3) (T := TX3) (N := 7) rfl inX3 tyX3_ok nmX3 (by decide) rfl (tyX3_ok 3 (by decide)) (Or.inl ⟨rfl, kdI 3 3 (by decide)⟩) q1_209 (by decide +kernel) rfl, ?_⟩
  refine List.forall_mem_cons.mpr ⟨s_iload_n (j := 1) (by decide +kernel) rfl rfl, ?_⟩
  refine List.forall_mem_cons.mpr ⟨s_iret rfl (by decide +kernel), ?_⟩
  exact fun q hq => absurd hq List.not_mem_nil
def T_X8_judge : List (Nat × zO) := [(0, o_aload 1 0), (1, o_iload 2 1), (2, o_callv 1 8 k_X8_isFrom 5), (5, o_if_eq 43 8), (8, o_aload 9 0), (9, o_iload 10 2), (10, o_callv 1 8 k_X8_isSortAndTide 13), (13, o_if_eq 43 16), (16, o_iload 17 3), (17, o_const 18 0), (18, o_aload 19 0), (19, o_getf 22 8 1), (22, o_getf 25 2 4), (25, o_const 26 1), (26, o_isub 27), (27, o_calls 3 k_X8_within 30), (30, o_if_eq 43 33), (33, o_iload 35 4), (35, o_const 36 0), (36, o_const 37 2), (37, o_calls 3 k_X8_within 40), (40, o_if_ne 45 43), (43, o_const 44 (-1)), (44, o_iret), (45, o_aload 46 0), (46, o_getf 49 8 2), (49, o_iload 50 2), (50, o_const 52 10), (52, o_irem 53), (53, o_const 54 1), (54, o_iload 55 3), (55, o_ishl 56), (56, o_callv 2 4 k_X4_rise 59), (59, o_aload 60 0), (60, o_getf 63 8 4), (63, o_iload 64 1), (64, o_iload 65 2), (65, o_const 67 10), (67, o_idiv 68), (68, o_callv 2 3 k_X3_walk 71), (71, o_istore 73 5), (73, o_iload 75 4), (75, o_if_ne 83 78), (78, o_iload 80 5), (80, o_goto 106), (83, o_iload 85 4), (85, o_const 86 1), (86, o_icmp_ne 99 89), (89, o_aload 90 0), (90, o_getf 93 8 4), (93, o_getf 96 3 5), (96, o_goto 106), (99, o_aload 100 0), (100, o_getf 103 8 4), (103, o_getf 106 3 4), (106, o_iret)]
set_option maxRecDepth 20000 in
theorem t_X8_judge : ∀ q ∈ T_X8_judge, zS k_X8_judge q.1 q.2 := by
  unfold T_X8_judge
  refine List.forall_mem_cons.mpr ⟨s_aload_n (j := 0) (by decide +kernel) rfl rfl, ?_⟩
  refine List.forall_mem_cons.mpr ⟨s_iload_n (j := 1) (by decide +kernel) rfl rfl, ?_⟩
  refine List.forall_mem_cons.mpr ⟨s_callv (idx := 177) (k' := k_X8_isFrom) (T := TX8) (N := 10) rfl q3_42 q3_39 q3_41 qs_11 q1_1 de_X8_isFrom (by decide) (by decide +kernel) rfl, ?_⟩
  refine List.forall_mem_cons.mpr ⟨s_if_eq (off := 38) (by decide +kernel) (by decide) rfl, ?_⟩
  refine List.forall_mem_cons.mpr ⟨s_aload_n (j := 0) (by decide +kernel) rfl rfl, ?_⟩
  refine List.forall_mem_cons.mpr ⟨s_iload_n (j := 2) (by decide +kernel) rfl rfl, ?_⟩
  refine List.forall_mem_cons.mpr ⟨s_callv (idx := 163) (k' := k_X8_isSortAndTide) (T := TX8) (N := 10) rfl q3_3 q3_0 q3_2 qs_8 q1_1 de_X8_isSortAndTide (by decide) (by decide +kernel) rfl, ?_⟩
  refine List.forall_mem_cons.mpr ⟨s_if_eq (off := 30) (by decide +kernel) (by decide) rfl, ?_⟩
  refine List.forall_mem_cons.mpr ⟨s_iload_n (j := 3) (by decide +kernel) rfl rfl, ?_⟩
  refine List.forall_mem_cons.mpr ⟨s_iconst (by decide +kernel) rfl, ?_⟩
  refine List.forall_mem_cons.mpr ⟨s_aload_n (j := 0) (by decide +kernel) rfl rfl, ?_⟩
  refine List.forall_mem_cons.mpr ⟨s_getf (idx := 19) (C := RX8) (T := TX8) (N := 10) rfl inX8 (by decide) q2_70 (by decide +kernel) rfl, ?_⟩
  refine List.forall_mem_cons.mpr ⟨s_getf (idx := 105) (C := RX2) (T := TX2) (N := 20) rfl inX2 (by decide) q1_65 (by decide +kernel) rfl, ?_⟩
  refine List.forall_mem_cons.mpr ⟨s_iconst (by decide +kernel) rfl, ?_⟩
  refine List.forall_mem_cons.mpr ⟨s_isub (by decide +kernel) rfl, ?_⟩
  refine List.forall_mem_cons.mpr ⟨s_calls (idx := 101) (k' := k_X8_within) q2_145 q2_143 q2_144 q1_1 de_X8_within (by decide) (by decide +kernel) rfl, ?_⟩
  refine List.forall_mem_cons.mpr ⟨s_if_eq (off := 13) (by decide +kernel) (by decide) rfl, ?_⟩
  refine List.forall_mem_cons.mpr ⟨s_iload (by decide +kernel) rfl, ?_⟩
  refine List.forall_mem_cons.mpr ⟨s_iconst (by decide +kernel) rfl, ?_⟩
  refine List.forall_mem_cons.mpr ⟨s_iconst (by decide +kernel) rfl, ?_⟩
  refine List.forall_mem_cons.mpr ⟨s_calls (idx := 101) (k' := k_X8_within) q2_145 q2_143 q2_144 q1_1 de_X8_within (by decide) (by decide +kernel) rfl, ?_⟩
  refine List.forall_mem_cons.mpr ⟨s_if_ne (off := 5) (by decide +kernel) (by decide) rfl, ?_⟩
  refine List.forall_mem_cons.mpr ⟨s_iconst (by decide +kernel) rfl, ?_⟩
  refine List.forall_mem_cons.mpr ⟨s_iret rfl (by decide +kernel), ?_⟩
  refine List.forall_mem_cons.mpr ⟨s_aload_n (j := 0) (by decide +kernel) rfl rfl, ?_⟩
  refine List.forall_mem_cons.mpr ⟨s_getf (idx := 28) (C := RX8) (T := TX8) (N := 10) rfl inX8 (by decide) q2_71 (by decide +kernel) rfl, ?_⟩
  refine List.forall_mem_cons.mpr ⟨s_iload_n (j := 2) (by decide +kernel) rfl rfl, ?_⟩
  refine List.forall_mem_cons.mpr ⟨s_bipush (by decide +kernel) (by decide) rfl, ?_⟩
  refine List.forall_mem_cons.mpr ⟨s_irem (by decide +kernel) rfl, ?_⟩
  refine List.forall_mem_cons.mpr ⟨s_iconst (by decide +kernel) rfl, ?_⟩
  refine List.forall_mem_cons.mpr ⟨s_iload_n (j := 3) (by decide +kernel) rfl rfl, ?_⟩
  refine List.forall_mem_cons.mpr ⟨s_ishl (by decide +kernel) rfl, ?_⟩
  refine List.forall_mem_cons.mpr ⟨s_callv (idx := 169) (k' := k_X4_rise) (T := TX4) (N := 5) rfl q3_15 q3_12 q3_13 q3_14 q1_4 de_X4_rise (by decide) (by decide +kernel) rfl, ?_⟩
  refine List.forall_mem_cons.mpr ⟨s_aload_n (j := 0) (by decide +kernel) rfl rfl, ?_⟩
  refine List.forall_mem_cons.mpr ⟨s_getf (idx := 44) (C := RX8) (T := TX8) (N := 10) rfl inX8 (by decide) q2_73 (by decide +kernel) rfl, ?_⟩
  refine List.forall_mem_cons.mpr ⟨s_iload_n (j := 1) (by decide +kernel) rfl rfl, ?_⟩
  refine List.forall_mem_cons.mpr ⟨s_iload_n (j := 2) (by decide +kernel) rfl rfl, ?_⟩
  refine List.forall_mem_cons.mpr ⟨s_bipush (by decide +kernel) (by decide) rfl, ?_⟩
  refine List.forall_mem_cons.mpr ⟨s_idiv (by decide +kernel) rfl, ?_⟩
  refine List.forall_mem_cons.mpr ⟨s_callv (idx := 234) (k' := k_X3_walk) (T := TX3) (N := 7) rfl q3_182 q3_179 q3_180 q3_181 q1_6 de_X3_walk (by decide) (by decide +kernel) rfl, ?_⟩
  refine List.forall_mem_cons.mpr ⟨s_istore (by decide +kernel) (by decide) rfl, ?_⟩
  refine List.forall_mem_cons.mpr ⟨s_iload (by decide +kernel) rfl, ?_⟩
  refine List.forall_mem_cons.mpr ⟨s_if_ne (off := 8) (by decide +kernel) (by decide) rfl, ?_⟩
  refine List.forall_mem_cons.mpr ⟨s_iload (by decide +kernel) rfl, ?_⟩
  refine List.forall_mem_cons.mpr ⟨s_goto (off := 26) (by decide +kernel) (by decide), ?_⟩
  refine List.forall_mem_cons.mpr ⟨s_iload (by decide +kernel) rfl, ?_⟩
  refine List.forall_mem_cons.mpr ⟨s_iconst (by decide +kernel) rfl, ?_⟩
  refine List.forall_mem_cons.mpr ⟨s_icmp_ne (off := 13) (by decide +kernel) (by decide) rfl, ?_⟩
  refine List.forall_mem_cons.mpr ⟨s_aload_n (j := 0) (by decide +kernel) rfl rfl, ?_⟩
  refine List.forall_mem_cons.mpr ⟨s_getf (idx := 44) (C := RX8) (T := TX8) (N := 10) rfl inX8 (by decide) q2_73 (by decide +kernel) rfl, ?_⟩
  refine List.forall_mem_cons.mpr ⟨s_getf (idx := 237) (C := RX3) (T := TX3) (N := 7) rfl inX3 (by decide) q1_213 (by decide +kernel) rfl, ?_⟩
  refine List.forall_mem_cons.mpr ⟨s_goto (off := 10) (by decide +kernel) (by decide), ?_⟩
  refine List.forall_mem_cons.mpr ⟨s_aload_n (j := 0) (by decide +kernel) rfl rfl, ?_⟩
  refine List.forall_mem_cons.mpr ⟨s_getf (idx := 44) (C := RX8) (T := TX8) (N := 10) rfl inX8 (by decide) q2_73 (by decide +kernel) rfl, ?_⟩
  refine List.forall_mem_cons.mpr ⟨s_getf (idx := 240) (C := RX3) (T := TX3) (N := 7) rfl inX3 (by decide) q1_211 (by decide +kernel) rfl, ?_⟩
  refine List.forall_mem_cons.mpr ⟨s_iret rfl (by decide +kernel), ?_⟩
  exact fun q hq => absurd hq List.not_mem_nil
def T_X8_wet : List (Nat × zO) := [(0, o_aload 1 0), (1, o_iload 2 1), (2, o_callv 1 8 k_X8_isFrom 5), (5, o_if_eq 33 8), (8, o_aload 9 0), (9, o_iload 10 2), (10, o_callv 1 8 k_X8_isSortAndTide 13), (13, o_if_eq 33 16), (16, o_iload 17 3), (17, o_const 18 0), (18, o_aload 19 0), (19, o_getf 22 8 1), (22, o_getf 25 2 4), (25, o_const 26 1), (26, o_isub 27), (27, o_calls 3 k_X8_within 30), (30, o_if_ne 35 33), (33, o_const 34 (-1)), (34, o_iret), (35, o_aload 36 0), (36, o_getf 39 8 2), (39, o_iload 40 2), (40, o_const 42 10), (42, o_irem 43), (43, o_const 44 1), (44, o_iload 45 3), (45, o_ishl 46), (46, o_callv 2 4 k_X4_rise 49), (49, o_aload 50 0), (50, o_getf 53 8 4), (53, o_iload 54 1), (54, o_iload 55 2), (55, o_const 57 10), (57, o_idiv 58), (58, o_callv 2 3 k_X3_walk 61), (61, o_const 63 (-2)), (63, o_icmp_ne 71 66), (66, o_const 68 (-2)), (68, o_goto 82), (71, o_aload 72 0), (72, o_getf 75 8 4), (75, o_iload 76 2), (76, o_const 78 10), (78, o_idiv 79), (79, o_callv 1 3 k_X3_shutIn 82), (82, o_iret)]
set_option maxRecDepth 20000 in
theorem t_X8_wet : ∀ q ∈ T_X8_wet, zS k_X8_wet q.1 q.2 := by
  unfold T_X8_wet
  refine List.forall_mem_cons.mpr ⟨s_aload_n (j := 0) (by decide +kernel) rfl rfl, ?_⟩
  refine List.forall_mem_cons.mpr ⟨s_iload_n (j := 1) (by decide +kernel) rfl rfl, ?_⟩
  refine List.forall_mem_cons.mpr ⟨s_callv (idx := 177) (k' := k_X8_isFrom) (T := TX8) (N := 10) rfl q3_42 q3_39 q3_41 qs_11 q1_1 de_X8_isFrom (by decide) (by decide +kernel) rfl, ?_⟩
  refine List.forall_mem_cons.mpr ⟨s_if_eq (off := 28) (by decide +kernel) (by decide) rfl, ?_⟩
  refine List.forall_mem_cons.mpr ⟨s_aload_n (j := 0) (by decide +kernel) rfl rfl, ?_⟩
  refine List.forall_mem_cons.mpr ⟨s_iload_n (j := 2) (by decide +kernel) rfl rfl, ?_⟩
  refine List.forall_mem_cons.mpr ⟨s_callv (idx := 163) (k' := k_X8_isSortAndTide) (T := TX8) (N := 10) rfl q3_3 q3_0 q3_2 qs_8 q1_1 de_X8_isSortAndTide (by decide) (by decide +kernel) rfl, ?_⟩
  refine List.forall_mem_cons.mpr ⟨s_if_eq (off := 20) (by decide +kernel) (by decide) rfl, ?_⟩
  refine List.forall_mem_cons.mpr ⟨s_iload_n (j := 3) (by decide +kernel) rfl rfl, ?_⟩
  refine List.forall_mem_cons.mpr ⟨s_iconst (by decide +kernel) rfl, ?_⟩
  refine List.forall_mem_cons.mpr ⟨s_aload_n (j := 0) (by decide +kernel) rfl rfl, ?_⟩
  refine List.forall_mem_cons.mpr ⟨s_getf (idx := 19) (C := RX8) (T := TX8) (N := 10) rfl inX8 (by decide) q2_70 (by decide +kernel) rfl, ?_⟩
  refine List.forall_mem_cons.mpr ⟨s_getf (idx := 105) (C := RX2) (T := TX2) (N := 20) rfl inX2 (by decide) q1_65 (by decide +kernel) rfl, ?_⟩
  refine List.forall_mem_cons.mpr ⟨s_iconst (by decide +kernel) rfl, ?_⟩
  refine List.forall_mem_cons.mpr ⟨s_isub (by decide +kernel) rfl, ?_⟩
  refine List.forall_mem_cons.mpr ⟨s_calls (idx := 101) (k' := k_X8_within) q2_145 q2_143 q2_144 q1_1 de_X8_within (by decide) (by decide +kernel) rfl, ?_⟩
  refine List.forall_mem_cons.mpr ⟨s_if_ne (off := 5) (by decide +kernel) (by decide) rfl, ?_⟩
  refine List.forall_mem_cons.mpr ⟨s_iconst (by decide +kernel) rfl, ?_⟩
  refine List.forall_mem_cons.mpr ⟨s_iret rfl (by decide +kernel), ?_⟩
  refine List.forall_mem_cons.mpr ⟨s_aload_n (j := 0) (by decide +kernel) rfl rfl, ?_⟩
  refine List.forall_mem_cons.mpr ⟨s_getf (idx := 28) (C := RX8) (T := TX8) (N := 10) rfl inX8 (by decide) q2_71 (by decide +kernel) rfl, ?_⟩
  refine List.forall_mem_cons.mpr ⟨s_iload_n (j := 2) (by decide +kernel) rfl rfl, ?_⟩
  refine List.forall_mem_cons.mpr ⟨s_bipush (by decide +kernel) (by decide) rfl, ?_⟩
  refine List.forall_mem_cons.mpr ⟨s_irem (by decide +kernel) rfl, ?_⟩
  refine List.forall_mem_cons.mpr ⟨s_iconst (by decide +kernel) rfl, ?_⟩
  refine List.forall_mem_cons.mpr ⟨s_iload_n (j := 3) (by decide +kernel) rfl rfl, ?_⟩
  refine List.forall_mem_cons.mpr ⟨s_ishl (by decide +kernel) rfl, ?_⟩
  refine List.forall_mem_cons.mpr ⟨s_callv (idx := 169) (k' := k_X4_rise) (T := TX4) (N := 5) rfl q3_15 q3_12 q3_13 q3_14 q1_4 de_X4_rise (by decide) (by decide +kernel) rfl, ?_⟩
  refine List.forall_mem_cons.mpr ⟨s_aload_n (j := 0) (by decide +kernel) rfl rfl, ?_⟩
  refine List.forall_mem_cons.mpr ⟨s_getf (idx := 44) (C := RX8) (T := TX8) (N := 10) rfl inX8 (by decide) q2_73 (by decide +kernel) rfl, ?_⟩
  refine List.forall_mem_cons.mpr ⟨s_iload_n (j := 1) (by decide +kernel) rfl rfl, ?_⟩
  refine List.forall_mem_cons.mpr ⟨s_iload_n (j := 2) (by decide +kernel) rfl rfl, ?_⟩
  refine List.forall_mem_cons.mpr ⟨s_bipush (by decide +kernel) (by decide) rfl, ?_⟩
  refine List.forall_mem_cons.mpr ⟨s_idiv (by decide +kernel) rfl, ?_⟩
  refine List.forall_mem_cons.mpr ⟨s_callv (idx := 234) (k' := k_X3_walk) (T := TX3) (N := 7) rfl q3_182 q3_179 q3_180 q3_181 q1_6 de_X3_walk (by decide) (by decide +kernel) rfl, ?_⟩
  refine List.forall_mem_cons.mpr ⟨s_bipush (by decide +kernel) (by decide) rfl, ?_⟩
  refine List.forall_mem_cons.mpr ⟨s_icmp_ne (off := 8) (by decide +kernel) (by decide) rfl, ?_⟩
  refine List.forall_mem_cons.mpr ⟨s_bipush (by decide +kernel) (by decide) rfl, ?_⟩
  refine List.forall_mem_cons.mpr ⟨s_goto (off := 14) (by decide +kernel) (by decide), ?_⟩
  refine List.forall_mem_cons.mpr ⟨s_aload_n (j := 0) (by decide +kernel) rfl rfl, ?_⟩
  refine List.forall_mem_cons.mpr ⟨s_getf (idx := 44) (C := RX8) (T := TX8) (N := 10) rfl inX8 (by decide) q2_73 (by decide +kernel) rfl, ?_⟩
  refine List.forall_mem_cons.mpr ⟨s_iload_n (j := 2) (by decide +kernel) rfl rfl, ?_⟩
  refine List.forall_mem_cons.mpr ⟨s_bipush (by decide +kernel) (by decide) rfl, ?_⟩
  refine List.forall_mem_cons.mpr ⟨s_idiv (by decide +kernel) rfl, ?_⟩
  refine List.forall_mem_cons.mpr ⟨s_callv (idx := 243) (k' := k_X3_shutIn) (T := TX3) (N := 7) rfl q3_204 q3_201 q3_202 q3_203 q1_6 de_X3_shutIn (by decide) (by decide +kernel) rfl, ?_⟩
  refine List.forall_mem_cons.mpr ⟨s_iret rfl (by decide +kernel), ?_⟩
  exact fun q hq => absurd hq List.not_mem_nil
def T_X8_chance : List (Nat × zO) := [(0, o_aload 1 0), (1, o_iload 2 1), (2, o_callv 1 8 k_X8_isFrom 5), (5, o_if_eq 16 8), (8, o_aload 9 0), (9, o_iload 10 2), (10, o_callv 1 8 k_X8_isSortAndTide 13), (13, o_if_ne 18 16), (16, o_const 17 (-1)), (17, o_iret), (18, o_const 19 0), (19, o_istore 20 3), (20, o_const 21 0), (21, o_istore 23 4), (23, o_iload 25 4), (25, o_aload 26 0), (26, o_getf 29 8 1), (29, o_getf 32 2 4), (32, o_icmp_ge 80 35), (35, o_aload 36 0), (36, o_getf 39 8 2), (39, o_iload 40 2), (40, o_const 42 10), (42, o_irem 43), (43, o_const 44 1), (44, o_iload 46 4), (46, o_ishl 47), (47, o_callv 2 4 k_X4_rise 50), (50, o_aload 51 0), (51, o_getf 54 8 4), (54, o_iload 55 1), (55, o_iload 56 2), (56, o_const 58 10), (58, o_idiv 59), (59, o_callv 2 3 k_X3_walk 62), (62, o_const 64 (-2)), (64, o_icmp_ne 74 67), (67, o_iload 68 3), (68, o_const 69 1), (69, o_iload 71 4), (71, o_ishl 72), (72, o_ior 73), (73, o_istore 74 3), (74, o_iinc 77 4 1), (77, o_goto 23), (80, o_aload 81 0), (81, o_getf 84 8 1), (84, o_iload 85 3), (85, o_callv 1 2 k_X2_thousandths 88), (88, o_iret)]
set_option maxRecDepth 20000 in
theorem t_X8_chance : ∀ q ∈ T_X8_chance, zS k_X8_chance q.1 q.2 := by
  unfold T_X8_chance
  refine List.forall_mem_cons.mpr ⟨s_aload_n (j := 0) (by decide +kernel) rfl rfl, ?_⟩
  refine List.forall_mem_cons.mpr ⟨s_iload_n (j := 1) (by decide +kernel) rfl rfl, ?_⟩
  refine List.forall_mem_cons.mpr ⟨s_callv (idx := 177) (k' := k_X8_isFrom) (T := TX8) (N := 10) rfl q3_42 q3_39 q3_41 qs_11 q1_1 de_X8_isFrom (by decide) (by decide +kernel) rfl, ?_⟩
  refine List.forall_mem_cons.mpr ⟨s_if_eq (off := 11) (by decide +kernel) (by decide) rfl, ?_⟩
  refine List.forall_mem_cons.mpr ⟨s_aload_n (j := 0) (by decide +kernel) rfl rfl, ?_⟩
  refine List.forall_mem_cons.mpr ⟨s_iload_n (j := 2) (by decide +kernel) rfl rfl, ?_⟩
  refine List.forall_mem_cons.mpr ⟨s_callv (idx := 163) (k' := k_X8_isSortAndTide) (T := TX8) (N := 10) rfl q3_3 q3_0 q3_2 qs_8 q1_1 de_X8_isSortAndTide (by decide) (by decide +kernel) rfl, ?_⟩
  refine List.forall_mem_cons.mpr ⟨s_if_ne (off := 5) (by decide +kernel) (by decide) rfl, ?_⟩
  refine List.forall_mem_cons.mpr ⟨s_iconst (by decide +kernel) rfl, ?_⟩
  refine List.forall_mem_cons.mpr ⟨s_iret rfl (by decide +kernel), ?_⟩
  refine List.forall_mem_cons.mpr ⟨s_iconst (by decide +kernel) rfl, ?_⟩
  refine List.forall_mem_cons.mpr ⟨s_istore_n (j := 3) (by decide +kernel) rfl (by decide) rfl, ?_⟩
  refine List.forall_mem_cons.mpr ⟨s_iconst (by decide +kernel) rfl, ?_⟩
  refine List.forall_mem_cons.mpr ⟨s_istore (by decide +kernel) (by decide) rfl, ?_⟩
  refine List.forall_mem_cons.mpr ⟨s_iload (by decide +kernel) rfl, ?_⟩
  refine List.forall_mem_cons.mpr ⟨s_aload_n (j := 0) (by decide +kernel) rfl rfl, ?_⟩
  refine List.forall_mem_cons.mpr ⟨s_getf (idx := 19) (C := RX8) (T := TX8) (N := 10) rfl inX8 (by decide) q2_70 (by decide +kernel) rfl, ?_⟩
  refine List.forall_mem_cons.mpr ⟨s_getf (idx := 105) (C := RX2) (T := TX2) (N := 20) rfl inX2 (by decide) q1_65 (by decide +kernel) rfl, ?_⟩
  refine List.forall_mem_cons.mpr ⟨s_icmp_ge (off := 48) (by decide +kernel) (by decide) rfl, ?_⟩
  refine List.forall_mem_cons.mpr ⟨s_aload_n (j := 0) (by decide +kernel) rfl rfl, ?_⟩
  refine List.forall_mem_cons.mpr ⟨s_getf (idx := 28) (C := RX8) (T := TX8) (N := 10) rfl inX8 (by decide) q2_71 (by decide +kernel) rfl, ?_⟩
  refine List.forall_mem_cons.mpr ⟨s_iload_n (j := 2) (by decide +kernel) rfl rfl, ?_⟩
  refine List.forall_mem_cons.mpr ⟨s_bipush (by decide +kernel) (by decide) rfl, ?_⟩
  refine List.forall_mem_cons.mpr ⟨s_irem (by decide +kernel) rfl, ?_⟩
  refine List.forall_mem_cons.mpr ⟨s_iconst (by decide +kernel) rfl, ?_⟩
  refine List.forall_mem_cons.mpr ⟨s_iload (by decide +kernel) rfl, ?_⟩
  refine List.forall_mem_cons.mpr ⟨s_ishl (by decide +kernel) rfl, ?_⟩
  refine List.forall_mem_cons.mpr ⟨s_callv (idx := 169) (k' := k_X4_rise) (T := TX4) (N := 5) rfl q3_15 q3_12 q3_13 q3_14 q1_4 de_X4_rise (by decide) (by decide +kernel) rfl, ?_⟩
  refine List.forall_mem_cons.mpr ⟨s_aload_n (j := 0) (by decide +kernel) rfl rfl, ?_⟩
  refine List.forall_mem_cons.mpr ⟨s_getf (idx := 44) (C := RX8) (T := TX8) (N := 10) rfl inX8 (by decide) q2_73 (by decide +kernel) rfl, ?_⟩
  refine List.forall_mem_cons.mpr ⟨s_iload_n (j := 1) (by decide +kernel) rfl rfl, ?_⟩
  refine List.forall_mem_cons.mpr ⟨s_iload_n (j := 2) (by decide +kernel) rfl rfl, ?_⟩
  refine List.forall_mem_cons.mpr ⟨s_bipush (by decide +kernel) (by decide) rfl, ?_⟩
  refine List.forall_mem_cons.mpr ⟨s_idiv (by decide +kernel) rfl, ?_⟩
  refine List.forall_mem_cons.mpr ⟨s_callv (idx := 234) (k' := k_X3_walk) (T := TX3) (N := 7) rfl q3_182 q3_179 q3_180 q3_181 q1_6 de_X3_walk (by decide) (by decide +kernel) rfl, ?_⟩
  refine List.forall_mem_cons.mpr ⟨s_bipush (by decide +kernel) (by decide) rfl, ?_⟩
  refine List.forall_mem_cons.mpr ⟨s_icmp_ne (off := 10) (by decide +kernel) (by decide) rfl, ?_⟩
  refine List.forall_mem_cons.mpr ⟨s_iload_n (j := 3) (by decide +kernel) rfl rfl, ?_⟩
  refine List.forall_mem_cons.mpr ⟨s_iconst (by decide +kernel) rfl, ?_⟩
  refine List.forall_mem_cons.mpr ⟨s_iload (by decide +kernel) rfl, ?_⟩
  refine List.forall_mem_cons.mpr ⟨s_ishl (by decide +kernel) rfl, ?_⟩
  refine List.forall_mem_cons.mpr ⟨s_ior (by decide +kernel) rfl, ?_⟩
  refine List.forall_mem_cons.mpr ⟨s_istore_n (j := 3) (by decide +kernel) rfl (by decide) rfl, ?_⟩
  refine List.forall_mem_cons.mpr ⟨s_iinc (by decide +kernel) (by decide) rfl, ?_⟩
  refine List.forall_mem_cons.mpr ⟨s_goto (off := (-54)) (by decide +kernel) (by decide), ?_⟩
  refine List.forall_mem_cons.mpr ⟨s_aload_n (j := 0) (by decide +kernel) rfl rfl, ?_⟩
  refine List.forall_mem_cons.mpr ⟨s_getf (idx := 19) (C := RX8) (T := TX8) (N := 10) rfl inX8 (by decide) q2_70 (by decide +kernel) rfl, ?_⟩
  refine List.forall_mem_cons.mpr ⟨s_iload_n (j := 3) (by decide +kernel) rfl rfl, ?_⟩
  refine List.forall_mem_cons.mpr ⟨s_callv (idx := 193) (k' := k_X2_thousandths) (T := TX2) (N := 20) rfl q3_109 q3_106 q3_107 q3_108 q1_3 de_X2_thousandths (by decide) (by decide +kernel) rfl, ?_⟩
  refine List.forall_mem_cons.mpr ⟨s_iret rfl (by decide +kernel), ?_⟩
  exact fun q hq => absurd hq List.not_mem_nil
def T_X8_mark : List (Nat × zO) := [(0, o_aload 1 0), (1, o_iload 2 1), (2, o_callv 1 8 k_X8_isFrom 5), (5, o_if_eq 38 8), (8, o_aload 9 0), (9, o_getf 12 8 9), (12, o_if_le 40 15), (15, o_iload 16 1), (16, o_const 19 10000), (19, o_irem 20), (20, o_aload 21 0), (21, o_getf 24 8 8), (24, o_aload 25 0), (25, o_getf 28 8 9), (28, o_const 29 1), (29, o_isub 30), (30, o_iald 31), (31, o_const 34 10000), (34, o_irem 35), (35, o_icmp_gt 40 38), (38, o_const 39 (-1)), (39, o_iret), (40, o_aload 41 0), (41, o_getf 44 8 9), (44, o_const 46 6), (46, o_icmp_lt 52 49), (49, o_const 51 (-3)), (51, o_iret), (52, o_aload 53 0), (53, o_getf 56 8 8), (56, o_aload 57 0), (57, o_getf 60 8 9), (60, o_iload 61 1), (61, o_iast 62), (62, o_aload 63 0), (63, o_dup 64), (64, o_getf 67 8 9), (67, o_const 68 1), (68, o_iadd 69), (69, o_putf 72 8 9), (72, o_aload 73 0), (73, o_getf 76 8 9), (76, o_iret)]
set_option maxRecDepth 20000 in
theorem t_X8_mark : ∀ q ∈ T_X8_mark, zS k_X8_mark q.1 q.2 := by
  unfold T_X8_mark
  refine List.forall_mem_cons.mpr ⟨s_aload_n (j := 0) (by decide +kernel) rfl rfl, ?_⟩
  refine List.forall_mem_cons.mpr ⟨s_iload_n (j := 1) (by decide +kernel) rfl rfl, ?_⟩
  refine List.forall_mem_cons.mpr ⟨s_callv (idx := 177) (k' := k_X8_isFrom) (T := TX8) (N := 10) rfl q3_42 q3_39 q3_41 qs_11 q1_1 de_X8_isFrom (by decide) (by decide +kernel) rfl, ?_⟩
  refine List.forall_mem_cons.mpr ⟨s_if_eq (off := 33) (by decide +kernel) (by decide) rfl, ?_⟩
  refine List.forall_mem_cons.mpr ⟨s_aload_n (j := 0) (by decide +kernel) rfl rfl, ?_⟩
  refine List.forall_mem_cons.mpr ⟨s_getf (idx := 246) (C := RX8) (T := TX8) (N := 10) rfl inX8 (by decide) q2_78 (by decide +kernel) rfl, ?_⟩
  refine List.forall_mem_cons.mpr ⟨s_if_le (off := 28) (by decide +kernel) (by decide) rfl, ?_⟩
  refine List.forall_mem_cons.mpr ⟨s_iload_n (j := 1) (by decide +kernel) rfl rfl, ?_⟩
  refine List.forall_mem_cons.mpr ⟨s_sipush (by decide +kernel) (by decide) rfl, ?_⟩
  refine List.forall_mem_cons.mpr ⟨s_irem (by decide +kernel) rfl, ?_⟩
  refine List.forall_mem_cons.mpr ⟨s_aload_n (j := 0) (by decide +kernel) rfl rfl, ?_⟩
  refine List.forall_mem_cons.mpr ⟨s_getf (idx := 68) (C := RX8) (T := TX8) (N := 10) rfl inX8 (by decide) q2_77 (by decide +kernel) rfl, ?_⟩
  refine List.forall_mem_cons.mpr ⟨s_aload_n (j := 0) (by decide +kernel) rfl rfl, ?_⟩
  refine List.forall_mem_cons.mpr ⟨s_getf (idx := 246) (C := RX8) (T := TX8) (N := 10) rfl inX8 (by decide) q2_78 (by decide +kernel) rfl, ?_⟩
  refine List.forall_mem_cons.mpr ⟨s_iconst (by decide +kernel) rfl, ?_⟩
  refine List.forall_mem_cons.mpr ⟨s_isub (by decide +kernel) rfl, ?_⟩
  refine List.forall_mem_cons.mpr ⟨s_iald (by decide +kernel) rfl, ?_⟩
  refine List.forall_mem_cons.mpr ⟨s_sipush (by decide +kernel) (by decide) rfl, ?_⟩
  refine List.forall_mem_cons.mpr ⟨s_irem (by decide +kernel) rfl, ?_⟩
  refine List.forall_mem_cons.mpr ⟨s_icmp_gt (off := 5) (by decide +kernel) (by decide) rfl, ?_⟩
  refine List.forall_mem_cons.mpr ⟨s_iconst (by decide +kernel) rfl, ?_⟩
  refine List.forall_mem_cons.mpr ⟨s_iret rfl (by decide +kernel), ?_⟩
  refine List.forall_mem_cons.mpr ⟨s_aload_n (j := 0) (by decide +kernel) rfl rfl, ?_⟩
  refine List.forall_mem_cons.mpr ⟨s_getf (idx := 246) (C := RX8) (T := TX8) (N := 10) rfl inX8 (by decide) q2_78 (by decide +kernel) rfl, ?_⟩
  refine List.forall_mem_cons.mpr ⟨s_bipush (by decide +kernel) (by decide) rfl, ?_⟩
  refine List.forall_mem_cons.mpr ⟨s_icmp_lt (off := 6) (by decide +kernel) (by decide) rfl, ?_⟩
  refine List.forall_mem_cons.mpr ⟨s_bipush (by decide +kernel) (by decide) rfl, ?_⟩
  refine List.forall_mem_cons.mpr ⟨s_iret rfl (by decide +kernel), ?_⟩
  refine List.forall_mem_cons.mpr ⟨s_aload_n (j := 0) (by decide +kernel) rfl rfl, ?_⟩
  refine List.forall_mem_cons.mpr ⟨s_getf (idx := 68) (C := RX8) (T := TX8) (N := 10) rfl inX8 (by decide) q2_77 (by decide +kernel) rfl, ?_⟩
  refine List.forall_mem_cons.mpr ⟨s_aload_n (j := 0) (by decide +kernel) rfl rfl, ?_⟩
  refine List.forall_mem_cons.mpr ⟨s_getf (idx := 246) (C := RX8) (T := TX8) (N := 10) rfl inX8 (by decide) q2_78 (by decide +kernel) rfl, ?_⟩
  refine List.forall_mem_cons.mpr ⟨s_iload_n (j := 1) (by decide +kernel) rfl rfl, ?_⟩
  refine List.forall_mem_cons.mpr ⟨s_iast (by decide +kernel) rfl, ?_⟩
  refine List.forall_mem_cons.mpr ⟨s_aload_n (j := 0) (by decide +kernel) rfl rfl, ?_⟩
  refine List.forall_mem_cons.mpr ⟨s_dup (by decide +kernel) rfl, ?_⟩
  refine List.forall_mem_cons.mpr ⟨s_getf (idx := 246) (C := RX8) (T := TX8) (N := 10) rfl inX8 (by decide) q2_78 (by decide +kernel) rfl, ?_⟩
  refine List.forall_mem_cons.mpr ⟨s_iconst (by decide +kernel) rfl, ?_⟩
  refine List.forall_mem_cons.mpr ⟨s_iadd (by decide +kernel) rfl, ?_⟩
  refine List.forall_mem_cons.mpr ⟨s_putf (idx := 246) (C := RX8) (T := TX8) (N := 10) rfl inX8 tyX8_ok nmX8 (by decide) rfl (tyX8_ok 9 (by decide)) (Or.inl ⟨rfl, kdI 8 9 (by decide)⟩) q2_78 (by decide +kernel) rfl, ?_⟩
  refine List.forall_mem_cons.mpr ⟨s_aload_n (j := 0) (by decide +kernel) rfl rfl, ?_⟩
  refine List.forall_mem_cons.mpr ⟨s_getf (idx := 246) (C := RX8) (T := TX8) (N := 10) rfl inX8 (by decide) q2_78 (by decide +kernel) rfl, ?_⟩
  refine List.forall_mem_cons.mpr ⟨s_iret rfl (by decide +kernel), ?_⟩
  exact fun q hq => absurd hq List.not_mem_nil
def T_X8_old : List (Nat × zO) := [(0, o_aload 1 0), (1, o_iload 2 1), (2, o_callv 1 8 k_X8_isSortAndTide 5), (5, o_if_ne 10 8), (8, o_const 9 (-1)), (9, o_iret), (10, o_aload 11 0), (11, o_getf 14 8 9), (14, o_const 15 2), (15, o_icmp_ge 21 18), (18, o_const 20 (-5)), (20, o_iret), (21, o_const 22 0), (22, o_istore 23 2), (23, o_const 24 0), (24, o_istore 25 3), (25, o_iload 26 3), (26, o_aload 27 0), (27, o_getf 30 8 1), (30, o_getf 33 2 4), (33, o_icmp_ge 66 36), (36, o_aload 37 0), (37, o_getf 40 8 3), (40, o_iload 41 1), (41, o_const 42 1), (42, o_iload 43 3), (43, o_ishl 44), (44, o_callv 2 5 k_X5_prepare 47), (47, o_aload 48 0), (48, o_callv 0 8 k_X8_marksCanHaveBeen 51), (51, o_if_eq 60 54), (54, o_iload 55 2), (55, o_const 56 1), (56, o_iload 57 3), (57, o_ishl 58), (58, o_ior 59), (59, o_istore 60 2), (60, o_iinc 63 3 1), (63, o_goto 25), (66, o_iload 67 2), (67, o_iret)]
set_option maxRecDepth 20000 in
theorem t_X8_old : ∀ q ∈ T_X8_old, zS k_X8_old q.1 q.2 := by
  unfold T_X8_old
  refine List.forall_mem_cons.mpr ⟨s_aload_n (j := 0) (by decide +kernel) rfl rfl, ?_⟩
  refine List.forall_mem_cons.mpr ⟨s_iload_n (j := 1) (by decide +kernel) rfl rfl, ?_⟩
  refine List.forall_mem_cons.mpr ⟨s_callv (idx := 163) (k' := k_X8_isSortAndTide) (T := TX8) (N := 10) rfl q3_3 q3_0 q3_2 qs_8 q1_1 de_X8_isSortAndTide (by decide) (by decide +kernel) rfl, ?_⟩
  refine List.forall_mem_cons.mpr ⟨s_if_ne (off := 5) (by decide +kernel) (by decide) rfl, ?_⟩
  refine List.forall_mem_cons.mpr ⟨s_iconst (by decide +kernel) rfl, ?_⟩
  refine List.forall_mem_cons.mpr ⟨s_iret rfl (by decide +kernel), ?_⟩
  refine List.forall_mem_cons.mpr ⟨s_aload_n (j := 0) (by decide +kernel) rfl rfl, ?_⟩
  refine List.forall_mem_cons.mpr ⟨s_getf (idx := 246) (C := RX8) (T := TX8) (N := 10) rfl inX8 (by decide) q2_78 (by decide +kernel) rfl, ?_⟩
  refine List.forall_mem_cons.mpr ⟨s_iconst (by decide +kernel) rfl, ?_⟩
  refine List.forall_mem_cons.mpr ⟨s_icmp_ge (off := 6) (by decide +kernel) (by decide) rfl, ?_⟩
  refine List.forall_mem_cons.mpr ⟨s_bipush (by decide +kernel) (by decide) rfl, ?_⟩
  refine List.forall_mem_cons.mpr ⟨s_iret rfl (by decide +kernel), ?_⟩
  refine List.forall_mem_cons.mpr ⟨s_iconst (by decide +kernel) rfl, ?_⟩
  refine List.forall_mem_cons.mpr ⟨s_istore_n (j := 2) (by decide +kernel) rfl (by decide) rfl, ?_⟩
  refine List.forall_mem_cons.mpr ⟨s_iconst (by decide +kernel) rfl, ?_⟩
  refine List.forall_mem_cons.mpr ⟨s_istore_n (j := 3) (by decide +kernel) rfl (by decide) rfl, ?_⟩
  refine List.forall_mem_cons.mpr ⟨s_iload_n (j := 3) (by decide +kernel) rfl rfl, ?_⟩
  refine List.forall_mem_cons.mpr ⟨s_aload_n (j := 0) (by decide +kernel) rfl rfl, ?_⟩
  refine List.forall_mem_cons.mpr ⟨s_getf (idx := 19) (C := RX8) (T := TX8) (N := 10) rfl inX8 (by decide) q2_70 (by decide +kernel) rfl, ?_⟩
  refine List.forall_mem_cons.mpr ⟨s_getf (idx := 105) (C := RX2) (T := TX2) (N := 20) rfl inX2 (by decide) q1_65 (by decide +kernel) rfl, ?_⟩
  refine List.forall_mem_cons.mpr ⟨s_icmp_ge (off := 33) (by decide +kernel) (by decide) rfl, ?_⟩
  refine List.forall_mem_cons.mpr ⟨s_aload_n (j := 0) (by decide +kernel) rfl rfl, ?_⟩
  refine List.forall_mem_cons.mpr ⟨s_getf (idx := 37) (C := RX8) (T := TX8) (N := 10) rfl inX8 (by decide) q2_72 (by decide +kernel) rfl, ?_⟩
  refine List.forall_mem_cons.mpr ⟨s_iload_n (j := 1) (by decide +kernel) rfl rfl, ?_⟩
  refine List.forall_mem_cons.mpr ⟨s_iconst (by decide +kernel) rfl, ?_⟩
  refine List.forall_mem_cons.mpr ⟨s_iload_n (j := 3) (by decide +kernel) rfl rfl, ?_⟩
  refine List.forall_mem_cons.mpr ⟨s_ishl (by decide +kernel) rfl, ?_⟩
  refine List.forall_mem_cons.mpr ⟨s_callv (idx := 180) (k' := k_X5_prepare) (T := TX5) (N := 7) rfl q3_46 q3_43 q3_44 q3_45 q1_5 de_X5_prepare (by decide) (by decide +kernel) rfl, ?_⟩
  refine List.forall_mem_cons.mpr ⟨s_aload_n (j := 0) (by decide +kernel) rfl rfl, ?_⟩
  refine List.forall_mem_cons.mpr ⟨s_callv (idx := 249) (k' := k_X8_marksCanHaveBeen) (T := TX8) (N := 10) rfl q3_221 q3_218 q3_220 qs_25 q1_1 de_X8_marksCanHaveBeen (by decide) (by decide +kernel) rfl, ?_⟩
  refine List.forall_mem_cons.mpr ⟨s_if_eq (off := 9) (by decide +kernel) (by decide) rfl, ?_⟩
  refine List.forall_mem_cons.mpr ⟨s_iload_n (j := 2) (by decide +kernel) rfl rfl, ?_⟩
  refine List.forall_mem_cons.mpr ⟨s_iconst (by decide +kernel) rfl, ?_⟩
  refine List.forall_mem_cons.mpr ⟨s_iload_n (j := 3) (by decide +kernel) rfl rfl, ?_⟩
  refine List.forall_mem_cons.mpr ⟨s_ishl (by decide +kernel) rfl, ?_⟩
  refine List.forall_mem_cons.mpr ⟨s_ior (by decide +kernel) rfl, ?_⟩
  refine List.forall_mem_cons.mpr ⟨s_istore_n (j := 2) (by decide +kernel) rfl (by decide) rfl, ?_⟩
  refine List.forall_mem_cons.mpr ⟨s_iinc (by decide +kernel) (by decide) rfl, ?_⟩
  refine List.forall_mem_cons.mpr ⟨s_goto (off := (-38)) (by decide +kernel) (by decide), ?_⟩
  refine List.forall_mem_cons.mpr ⟨s_iload_n (j := 2) (by decide +kernel) rfl rfl, ?_⟩
  refine List.forall_mem_cons.mpr ⟨s_iret rfl (by decide +kernel), ?_⟩
  exact fun q hq => absurd hq List.not_mem_nil
def T_X8_unmark : List (Nat × zO) := [(0, o_aload 1 0), (1, o_getf 4 8 9), (4, o_istore 5 1), (5, o_aload 6 0), (6, o_const 7 0), (7, o_putf 10 8 9), (10, o_iload 11 1), (11, o_iret)]
set_option maxRecDepth 20000 in
theorem t_X8_unmark : ∀ q ∈ T_X8_unmark, zS k_X8_unmark q.1 q.2 := by
  unfold T_X8_unmark
  refine List.forall_mem_cons.mpr ⟨s_aload_n (j := 0) (by decide +kernel) rfl rfl, ?_⟩
  refine List.forall_mem_cons.mpr ⟨s_getf (idx := 246) (C := RX8) (T := TX8) (N := 10) rfl inX8 (by decide) q2_78 (by decide +kernel) rfl, ?_⟩
  refine List.forall_mem_cons.mpr ⟨s_istore_n (j := 1) (by decide +kernel) rfl (by decide) rfl, ?_⟩
  refine List.forall_mem_cons.mpr ⟨s_aload_n (j := 0) (by decide +kernel) rfl rfl, ?_⟩
  refine List.forall_mem_cons.mpr ⟨s_iconst (by decide +kernel) rfl, ?_⟩
  refine List.forall_mem_cons.mpr ⟨s_putf (idx := 246) (C := RX8) (T := TX8) (N := 10) rfl inX8 tyX8_ok nmX8 (by decide) rfl (tyX8_ok 9 (by decide)) (Or.inl ⟨rfl, kdI 8 9 (by decide)⟩) q2_78 (by decide +kernel) rfl, ?_⟩
  refine List.forall_mem_cons.mpr ⟨s_iload_n (j := 1) (by decide +kernel) rfl rfl, ?_⟩
  refine List.forall_mem_cons.mpr ⟨s_iret rfl (by decide +kernel), ?_⟩
  exact fun q hq => absurd hq List.not_mem_nil
def T_X8_undo : List (Nat × zO) := [(0, o_aload 1 0), (1, o_getf 4 8 5), (4, o_callv 0 1 k_X1_back 7), (7, o_if_eq 20 10), (10, o_aload 11 0), (11, o_getf 14 8 5), (14, o_getf 17 1 5), (17, o_goto 22), (20, o_const 22 (-5)), (22, o_iret)]
set_option maxRecDepth 20000 in
theorem t_X8_undo : ∀ q ∈ T_X8_undo, zS k_X8_undo q.1 q.2 := by
  unfold T_X8_undo
  refine List.forall_mem_cons.mpr ⟨s_aload_n (j := 0) (by decide +kernel) rfl rfl, ?_⟩
  refine List.forall_mem_cons.mpr ⟨s_getf (idx := 51) (C := RX8) (T := TX8) (N := 10) rfl inX8 (by decide) q2_74 (by decide +kernel) rfl, ?_⟩
  refine List.forall_mem_cons.mpr ⟨s_callv (idx := 253) (k' := k_X1_back) (T := TX1) (N := 7) rfl q3_237 q3_234 q3_235 q3_236 q1_7 de_X1_back (by decide) (by decide +kernel) rfl, ?_⟩
  refine List.forall_mem_cons.mpr ⟨s_if_eq (off := 13) (by decide +kernel) (by decide) rfl, ?_⟩
  refine List.forall_mem_cons.mpr ⟨s_aload_n (j := 0) (by decide +kernel) rfl rfl, ?_⟩
  refine List.forall_mem_cons.mpr ⟨s_getf (idx := 51) (C := RX8) (T := TX8) (N := 10) rfl inX8 (by decide) q2_74 (by decide +kernel) rfl, ?_⟩
  refine List.forall_mem_cons.mpr ⟨s_getf (idx := 256) (C := RX1) (T := TX1) (N := 7) rfl inX1 (by decide) q2_2 (by decide +kernel) rfl, ?_⟩
  refine List.forall_mem_cons.mpr ⟨s_goto (off := 5) (by decide +kernel) (by decide), ?_⟩
  refine List.forall_mem_cons.mpr ⟨s_bipush (by decide +kernel) (by decide) rfl, ?_⟩
  refine List.forall_mem_cons.mpr ⟨s_iret rfl (by decide +kernel), ?_⟩
  exact fun q hq => absurd hq List.not_mem_nil
def T_X8_redo : List (Nat × zO) := [(0, o_aload 1 0), (1, o_getf 4 8 5), (4, o_callv 0 1 k_X1_again 7), (7, o_if_eq 28 10), (10, o_aload 11 0), (11, o_getf 14 8 5), (14, o_getf 17 1 6), (17, o_aload 18 0), (18, o_getf 21 8 5), (21, o_getf 24 1 5), (24, o_isub 25), (25, o_goto 30), (28, o_const 30 (-5)), (30, o_iret)]
set_option maxRecDepth 20000 in
theorem t_X8_redo : ∀ q ∈ T_X8_redo, zS k_X8_redo q.1 q.2 := by
  unfold T_X8_redo
  refine List.forall_mem_cons.mpr ⟨s_aload_n (j := 0) (by decide +kernel) rfl rfl, ?_⟩
  refine List.forall_mem_cons.mpr ⟨s_getf (idx := 51) (C := RX8) (T := TX8) (N := 10) rfl inX8 (by decide) q2_74 (by decide +kernel) rfl, ?_⟩
  refine List.forall_mem_cons.mpr ⟨s_callv (idx := 259) (k' := k_X1_again) (T := TX1) (N := 7) rfl q4_5 q4_2 q4_3 q4_4 q1_7 de_X1_again (by decide) (by decide +kernel) rfl, ?_⟩
  refine List.forall_mem_cons.mpr ⟨s_if_eq (off := 21) (by decide +kernel) (by decide) rfl, ?_⟩
  refine List.forall_mem_cons.mpr ⟨s_aload_n (j := 0) (by decide +kernel) rfl rfl, ?_⟩
  refine List.forall_mem_cons.mpr ⟨s_getf (idx := 51) (C := RX8) (T := TX8) (N := 10) rfl inX8 (by decide) q2_74 (by decide +kernel) rfl, ?_⟩
  refine List.forall_mem_cons.mpr ⟨s_getf (idx := 262) (C := RX1) (T := TX1) (N := 7) rfl inX1 (by decide) q2_4 (by decide +kernel) rfl, ?_⟩
  refine List.forall_mem_cons.mpr ⟨s_aload_n (j := 0) (by decide +kernel) rfl rfl, ?_⟩
  refine List.forall_mem_cons.mpr ⟨s_getf (idx := 51) (C := RX8) (T := TX8) (N := 10) rfl inX8 (by decide) q2_74 (by decide +kernel) rfl, ?_⟩
  refine List.forall_mem_cons.mpr ⟨s_getf (idx := 256) (C := RX1) (T := TX1) (N := 7) rfl inX1 (by decide) q2_2 (by decide +kernel) rfl, ?_⟩
  refine List.forall_mem_cons.mpr ⟨s_isub (by decide +kernel) rfl, ?_⟩
  refine List.forall_mem_cons.mpr ⟨s_goto (off := 5) (by decide +kernel) (by decide), ?_⟩
  refine List.forall_mem_cons.mpr ⟨s_bipush (by decide +kernel) (by decide) rfl, ?_⟩
  refine List.forall_mem_cons.mpr ⟨s_iret rfl (by decide +kernel), ?_⟩
  exact fun q hq => absurd hq List.not_mem_nil
def T_X8_body : List (Nat × zO) := [(0, o_iload 1 1), (1, o_const 2 0), (2, o_const 4 6), (4, o_calls 3 k_X8_within 7), (7, o_if_ne 12 10), (10, o_const 11 (-1)), (11, o_iret), (12, o_aload 13 0), (13, o_getf 16 8 6), (16, o_getf 19 0 1), (19, o_const 21 50), (21, o_icmp_lt 29 24), (24, o_const 26 (-3)), (26, o_goto 37), (29, o_aload 30 0), (30, o_getf 33 8 6), (33, o_iload 34 1), (34, o_callv 1 0 k_X0_add 37), (37, o_iret)]
set_option maxRecDepth 20000 in
theorem t_X8_body : ∀ q ∈ T_X8_body, zS k_X8_body q.1 q.2 := by
  unfold T_X8_body
  refine List.forall_mem_cons.mpr ⟨s_iload_n (j := 1) (by decide +kernel) rfl rfl, ?_⟩
  refine List.forall_mem_cons.mpr ⟨s_iconst (by decide +kernel) rfl, ?_⟩
  refine List.forall_mem_cons.mpr ⟨s_bipush (by decide +kernel) (by decide) rfl, ?_⟩
  refine List.forall_mem_cons.mpr ⟨s_calls (idx := 101) (k' := k_X8_within) q2_145 q2_143 q2_144 q1_1 de_X8_within (by decide) (by decide +kernel) rfl, ?_⟩
  refine List.forall_mem_cons.mpr ⟨s_if_ne (off := 5) (by decide +kernel) (by decide) rfl, ?_⟩
  refine List.forall_mem_cons.mpr ⟨s_iconst (by decide +kernel) rfl, ?_⟩
  refine List.forall_mem_cons.mpr ⟨s_iret rfl (by decide +kernel), ?_⟩
  refine List.forall_mem_cons.mpr ⟨s_aload_n (j := 0) (by decide +kernel) rfl rfl, ?_⟩
  refine List.forall_mem_cons.mpr ⟨s_getf (idx := 58) (C := RX8) (T := TX8) (N := 10) rfl inX8 (by decide) q2_75 (by decide +kernel) rfl, ?_⟩
  refine List.forall_mem_cons.mpr ⟨s_getf (idx := 265) (C := RX0) (T := TX0) (N := 5) rfl inX0 (by decide) q2_29 (by decide +kernel) rfl, ?_⟩
  refine List.forall_mem_cons.mpr ⟨s_bipush (by decide +kernel) (by decide) rfl, ?_⟩
  refine List.forall_mem_cons.mpr ⟨s_icmp_lt (off := 8) (by decide +kernel) (by decide) rfl, ?_⟩
  refine List.forall_mem_cons.mpr ⟨s_bipush (by decide +kernel) (by decide) rfl, ?_⟩
  refine List.forall_mem_cons.mpr ⟨s_goto (off := 11) (by decide +kernel) (by decide), ?_⟩
  refine List.forall_mem_cons.mpr ⟨s_aload_n (j := 0) (by decide +kernel) rfl rfl, ?_⟩
  refine List.forall_mem_cons.mpr ⟨s_getf (idx := 58) (C := RX8) (T := TX8) (N := 10) rfl inX8 (by decide) q2_75 (by decide +kernel) rfl, ?_⟩
  refine List.forall_mem_cons.mpr ⟨s_iload_n (j := 1) (by decide +kernel) rfl rfl, ?_⟩
  refine List.forall_mem_cons.mpr ⟨s_callv (idx := 266) (k' := k_X0_add) (T := TX0) (N := 5) rfl q4_13 q4_10 q4_11 q4_12 q1_8 de_X0_add (by decide) (by decide +kernel) rfl, ?_⟩
  refine List.forall_mem_cons.mpr ⟨s_iret rfl (by decide +kernel), ?_⟩
  exact fun q hq => absurd hq List.not_mem_nil
def T_X8_act : List (Nat × zO) := [(0, o_aload 1 0), (1, o_getf 4 8 6), (4, o_iload 5 1), (5, o_iload 6 2), (6, o_iload 7 3), (7, o_callv 3 0 k_X0_perform 10), (10, o_iret)]
set_option maxRecDepth 20000 in
theorem t_X8_act : ∀ q ∈ T_X8_act, zS k_X8_act q.1 q.2 := by
  unfold T_X8_act
  refine List.forall_mem_cons.mpr ⟨s_aload_n (j := 0) (by decide +kernel) rfl rfl, ?_⟩
  refine List.forall_mem_cons.mpr ⟨s_getf (idx := 58) (C := RX8) (T := TX8) (N := 10) rfl inX8 (by decide) q2_75 (by decide +kernel) rfl, ?_⟩
  refine List.forall_mem_cons.mpr ⟨s_iload_n (j := 1) (by decide +kernel) rfl rfl, ?_⟩
  refine List.forall_mem_cons.mpr ⟨s_iload_n (j := 2) (by decide +kernel) rfl rfl, ?_⟩
  refine List.forall_mem_cons.mpr ⟨s_iload_n (j := 3) (by decide +kernel) rfl rfl, ?_⟩
  refine List.forall_mem_cons.mpr ⟨s_callv (idx := 268) (k' := k_X0_perform) (T := TX0) (N := 5) rfl q4_21 q4_18 q4_19 q4_20 q1_8 de_X0_perform (by decide) (by decide +kernel) rfl, ?_⟩
  refine List.forall_mem_cons.mpr ⟨s_iret rfl (by decide +kernel), ?_⟩
  exact fun q hq => absurd hq List.not_mem_nil
def T_X8_trace : List (Nat × zO) := [(0, o_iload 1 1), (1, o_const 2 0), (2, o_aload 3 0), (3, o_getf 6 8 6), (6, o_getf 9 0 3), (9, o_const 11 24), (11, o_mmin 14), (14, o_const 15 1), (15, o_isub 16), (16, o_calls 3 k_X8_within 19), (19, o_if_eq 34 22), (22, o_aload 23 0), (23, o_getf 26 8 6), (26, o_getf 29 0 2), (29, o_iload 30 1), (30, o_iald 31), (31, o_goto 35), (34, o_const 35 (-1)), (35, o_iret)]
set_option maxRecDepth 20000 in
theorem t_X8_trace : ∀ q ∈ T_X8_trace, zS k_X8_trace q.1 q.2 := by
  unfold T_X8_trace
  refine List.forall_mem_cons.mpr ⟨s_iload_n (j := 1) (by decide +kernel) rfl rfl, ?_⟩
  refine List.forall_mem_cons.mpr ⟨s_iconst (by decide +kernel) rfl, ?_⟩
  refine List.forall_mem_cons.mpr ⟨s_aload_n (j := 0) (by decide +kernel) rfl rfl, ?_⟩
  refine List.forall_mem_cons.mpr ⟨s_getf (idx := 58) (C := RX8) (T := TX8) (N := 10) rfl inX8 (by decide) q2_75 (by decide +kernel) rfl, ?_⟩
  refine List.forall_mem_cons.mpr ⟨s_getf (idx := 271) (C := RX0) (T := TX0) (N := 5) rfl inX0 (by decide) q2_33 (by decide +kernel) rfl, ?_⟩
  refine List.forall_mem_cons.mpr ⟨s_bipush (by decide +kernel) (by decide) rfl, ?_⟩
  refine List.forall_mem_cons.mpr ⟨s_mmin (idx := 274) q4_47 q2_163b q1_12b qminC (by decide +kernel) rfl, ?_⟩
  refine List.forall_mem_cons.mpr ⟨s_iconst (by decide +kernel) rfl, ?_⟩
  refine List.forall_mem_cons.mpr ⟨s_isub (by decide +kernel) rfl, ?_⟩
  refine List.forall_mem_cons.mpr ⟨s_calls (idx := 101) (k' := k_X8_within) q2_145 q2_143 q2_144 q1_1 de_X8_within (by decide) (by decide +kernel) rfl, ?_⟩
  refine List.forall_mem_cons.mpr ⟨s_if_eq (off := 15) (by decide +kernel) (by decide) rfl, ?_⟩
  refine List.forall_mem_cons.mpr ⟨s_aload_n (j := 0) (by decide +kernel) rfl rfl, ?_⟩
  refine List.forall_mem_cons.mpr ⟨s_getf (idx := 58) (C := RX8) (T := TX8) (N := 10) rfl inX8 (by decide) q2_75 (by decide +kernel) rfl, ?_⟩
  refine List.forall_mem_cons.mpr ⟨s_getf (idx := 279) (C := RX0) (T := TX0) (N := 5) rfl inX0 (by decide) q2_31 (by decide +kernel) rfl, ?_⟩
  refine List.forall_mem_cons.mpr ⟨s_iload_n (j := 1) (by decide +kernel) rfl rfl, ?_⟩
  refine List.forall_mem_cons.mpr ⟨s_iald (by decide +kernel) rfl, ?_⟩
  refine List.forall_mem_cons.mpr ⟨s_goto (off := 4) (by decide +kernel) (by decide), ?_⟩
  refine List.forall_mem_cons.mpr ⟨s_iconst (by decide +kernel) rfl, ?_⟩
  refine List.forall_mem_cons.mpr ⟨s_iret rfl (by decide +kernel), ?_⟩
  exact fun q hq => absurd hq List.not_mem_nil
def T_X8_keep : List (Nat × zO) := [(0, o_iload 1 1), (1, o_calls 1 k_X8_isShelf 4), (4, o_if_eq 24 7), (7, o_iload 8 2), (8, o_const 9 (-1)), (9, o_aload 10 0), (10, o_getf 13 8 6), (13, o_getf 16 0 1), (16, o_const 17 1), (17, o_isub 18), (18, o_calls 3 k_X8_within 21), (21, o_if_ne 26 24), (24, o_const 25 (-1)), (25, o_iret), (26, o_aload 27 0), (27, o_getf 30 8 7), (30, o_iload 31 1), (31, o_aald 32), (32, o_iload 33 2), (33, o_callv 1 6 k_X6_holdBody 36), (36, o_const 37 1), (37, o_iret)]
set_option maxRecDepth 20000 in
theorem t_X8_keep : ∀ q ∈ T_X8_keep, zS k_X8_keep q.1 q.2 := by
  unfold T_X8_keep
  refine List.forall_mem_cons.mpr ⟨s_iload_n (j := 1) (by decide +kernel) rfl rfl, ?_⟩
  refine List.forall_mem_cons.mpr ⟨s_calls (idx := 221) (k' := k_X8_isShelf) q3_166 q3_164 q3_165 q1_1 de_X8_isShelf (by decide) (by decide +kernel) rfl, ?_⟩
  refine List.forall_mem_cons.mpr ⟨s_if_eq (off := 20) (by decide +kernel) (by decide) rfl, ?_⟩
  refine List.forall_mem_cons.mpr ⟨s_iload_n (j := 2) (by decide +kernel) rfl rfl, ?_⟩
  refine List.forall_mem_cons.mpr ⟨s_iconst (by decide +kernel) rfl, ?_⟩
  refine List.forall_mem_cons.mpr ⟨s_aload_n (j := 0) (by decide +kernel) rfl rfl, ?_⟩
  refine List.forall_mem_cons.mpr ⟨s_getf (idx := 58) (C := RX8) (T := TX8) (N := 10) rfl inX8 (by decide) q2_75 (by decide +kernel) rfl, ?_⟩
  refine List.forall_mem_cons.mpr ⟨s_getf (idx := 265) (C := RX0) (T := TX0) (N := 5) rfl inX0 (by decide) q2_29 (by decide +kernel) rfl, ?_⟩
  refine List.forall_mem_cons.mpr ⟨s_iconst (by decide +kernel) rfl, ?_⟩
  refine List.forall_mem_cons.mpr ⟨s_isub (by decide +kernel) rfl, ?_⟩
  refine List.forall_mem_cons.mpr ⟨s_calls (idx := 101) (k' := k_X8_within) q2_145 q2_143 q2_144 q1_1 de_X8_within (by decide) (by decide +kernel) rfl, ?_⟩
  refine List.forall_mem_cons.mpr ⟨s_if_ne (off := 5) (by decide +kernel) (by decide) rfl, ?_⟩
  refine List.forall_mem_cons.mpr ⟨s_iconst (by decide +kernel) rfl, ?_⟩
  refine List.forall_mem_cons.mpr ⟨s_iret rfl (by decide +kernel), ?_⟩
  refine List.forall_mem_cons.mpr ⟨s_aload_n (j := 0) (by decide +kernel) rfl rfl, ?_⟩
  refine List.forall_mem_cons.mpr ⟨s_getf (idx := 64) (C := RX8) (T := TX8) (N := 10) rfl inX8 (by decide) q2_76 (by decide +kernel) rfl, ?_⟩
  refine List.forall_mem_cons.mpr ⟨s_iload_n (j := 1) (by decide +kernel) rfl rfl, ?_⟩
  refine List.forall_mem_cons.mpr ⟨s_aald (by decide +kernel) rfl, ?_⟩
  refine List.forall_mem_cons.mpr ⟨s_iload_n (j := 2) (by decide +kernel) rfl rfl, ?_⟩
  refine List.forall_mem_cons.mpr ⟨s_callv (idx := 282) (k' := k_X6_holdBody) (T := TX6) (N := 4) rfl q4_55 q4_52 q4_53 q4_54 q1_9 de_X6_holdBody (by decide) (by decide +kernel) rfl, ?_⟩
  refine List.forall_mem_cons.mpr ⟨s_iconst (by decide +kernel) rfl, ?_⟩
  refine List.forall_mem_cons.mpr ⟨s_iret rfl (by decide +kernel), ?_⟩
  exact fun q hq => absurd hq List.not_mem_nil
def T_X8_row : List (Nat × zO) := [(0, o_iload 1 1), (1, o_calls 1 k_X8_isShelf 4), (4, o_if_eq 22 7), (7, o_iload 8 2), (8, o_const 9 0), (9, o_const 10 4), (10, o_calls 3 k_X8_within 13), (13, o_if_eq 22 16), (16, o_iload 17 3), (17, o_const 19 60), (19, o_icmp_le 24 22), (22, o_const 23 (-1)), (23, o_iret), (24, o_iload 25 3), (25, o_if_ge 31 28), (28, o_const 30 (-14)), (30, o_iret), (31, o_aload 32 0), (32, o_getf 35 8 7), (35, o_iload 36 1), (36, o_aald 37), (37, o_iload 38 2), (38, o_iload 39 3), (39, o_callv 2 6 k_X6_holdRow 42), (42, o_const 43 1), (43, o_iret)]
set_option maxRecDepth 20000 in
theorem t_X8_row : ∀ q ∈ T_X8_row, zS k_X8_row q.1 q.2 := by
  unfold T_X8_row
  refine List.forall_mem_cons.mpr ⟨s_iload_n (j := 1) (by decide +kernel) rfl rfl, ?_⟩
  refine List.forall_mem_cons.mpr ⟨s_calls (idx := 221) (k' := k_X8_isShelf) q3_166 q3_164 q3_165 q1_1 de_X8_isShelf (by decide) (by decide +kernel) rfl, ?_⟩
  refine List.forall_mem_cons.mpr ⟨s_if_eq (off := 18) (by decide +kernel) (by decide) rfl, ?_⟩
  refine List.forall_mem_cons.mpr ⟨s_iload_n (j := 2) (by decide +kernel) rfl rfl, ?_⟩
  refine List.forall_mem_cons.mpr ⟨s_iconst (by decide +kernel) rfl, ?_⟩
  refine List.forall_mem_cons.mpr ⟨s_iconst (by decide +kernel) rfl, ?_⟩
  refine List.forall_mem_cons.mpr ⟨s_calls (idx := 101) (k' := k_X8_within) q2_145 q2_143 q2_144 q1_1 de_X8_within (by decide) (by decide +kernel) rfl, ?_⟩
  refine List.forall_mem_cons.mpr ⟨s_if_eq (off := 9) (by decide +kernel) (by decide) rfl, ?_⟩
  refine List.forall_mem_cons.mpr ⟨s_iload_n (j := 3) (by decide +kernel) rfl rfl, ?_⟩
  refine List.forall_mem_cons.mpr ⟨s_bipush (by decide +kernel) (by decide) rfl, ?_⟩
  refine List.forall_mem_cons.mpr ⟨s_icmp_le (off := 5) (by decide +kernel) (by decide) rfl, ?_⟩
  refine List.forall_mem_cons.mpr ⟨s_iconst (by decide +kernel) rfl, ?_⟩
  refine List.forall_mem_cons.mpr ⟨s_iret rfl (by decide +kernel), ?_⟩
  refine List.forall_mem_cons.mpr ⟨s_iload_n (j := 3) (by decide +kernel) rfl rfl, ?_⟩
  refine List.forall_mem_cons.mpr ⟨s_if_ge (off := 6) (by decide +kernel) (by decide) rfl, ?_⟩
  refine List.forall_mem_cons.mpr ⟨s_bipush (by decide +kernel) (by decide) rfl, ?_⟩
  refine List.forall_mem_cons.mpr ⟨s_iret rfl (by decide +kernel), ?_⟩
  refine List.forall_mem_cons.mpr ⟨s_aload_n (j := 0) (by decide +kernel) rfl rfl, ?_⟩
  refine List.forall_mem_cons.mpr ⟨s_getf (idx := 64) (C := RX8) (T := TX8) (N := 10) rfl inX8 (by decide) q2_76 (by decide +kernel) rfl, ?_⟩
  refine List.forall_mem_cons.mpr ⟨s_iload_n (j := 1) (by decide +kernel) rfl rfl, ?_⟩
  refine List.forall_mem_cons.mpr ⟨s_aald (by decide +kernel) rfl, ?_⟩
  refine List.forall_mem_cons.mpr ⟨s_iload_n (j := 2) (by decide +kernel) rfl rfl, ?_⟩
  refine List.forall_mem_cons.mpr ⟨s_iload_n (j := 3) (by decide +kernel) rfl rfl, ?_⟩
  refine List.forall_mem_cons.mpr ⟨s_callv (idx := 285) (k' := k_X6_holdRow) (T := TX6) (N := 4) rfl q4_64 q4_61 q4_62 q4_63 q1_9 de_X6_holdRow (by decide) (by decide +kernel) rfl, ?_⟩
  refine List.forall_mem_cons.mpr ⟨s_iconst (by decide +kernel) rfl, ?_⟩
  refine List.forall_mem_cons.mpr ⟨s_iret rfl (by decide +kernel), ?_⟩
  exact fun q hq => absurd hq List.not_mem_nil
def T_X8_put : List (Nat × zO) := [(0, o_aload 1 0), (1, o_iload 2 1), (2, o_iload 3 2), (3, o_callv 2 8 k_X8_refusalOfElement 6), (6, o_istore 8 5), (8, o_iload 10 5), (10, o_if_eq 16 13), (13, o_iload 15 5), (15, o_iret), (16, o_aload 17 0), (17, o_getf 20 8 7), (20, o_iload 21 1), (21, o_aald 22), (22, o_getf 25 6 2), (25, o_iload 26 2), (26, o_aload 27 0), (27, o_getf 30 8 7), (30, o_iload 31 1), (31, o_aald 32), (32, o_lload 33 3), (33, o_callv 1 6 k_X6_kept 36), (36, o_last 37), (37, o_const 38 1), (38, o_iret)]
set_option maxRecDepth 20000 in
theorem t_X8_put : ∀ q ∈ T_X8_put, zS k_X8_put q.1 q.2 := by
  unfold T_X8_put
  refine List.forall_mem_cons.mpr ⟨s_aload_n (j := 0) (by decide +kernel) rfl rfl, ?_⟩
  refine List.forall_mem_cons.mpr ⟨s_iload_n (j := 1) (by decide +kernel) rfl rfl, ?_⟩
  refine List.forall_mem_cons.mpr ⟨s_iload_n (j := 2) (by decide +kernel) rfl rfl, ?_⟩
  refine List.forall_mem_cons.mpr ⟨s_callv (idx := 288) (k' := k_X8_refusalOfElement) (T := TX8) (N := 10) rfl q4_73 q4_70 q4_72 qs_30 q1_1 de_X8_refusalOfElement (by decide) (by decide +kernel) rfl, ?_⟩
  refine List.forall_mem_cons.mpr ⟨s_istore (by decide +kernel) (by decide) rfl, ?_⟩
  refine List.forall_mem_cons.mpr ⟨s_iload (by decide +kernel) rfl, ?_⟩
  refine List.forall_mem_cons.mpr ⟨s_if_eq (off := 6) (by decide +kernel) (by decide) rfl, ?_⟩
  refine List.forall_mem_cons.mpr ⟨s_iload (by decide +kernel) rfl, ?_⟩
  refine List.forall_mem_cons.mpr ⟨s_iret rfl (by decide +kernel), ?_⟩
  refine List.forall_mem_cons.mpr ⟨s_aload_n (j := 0) (by decide +kernel) rfl rfl, ?_⟩
  refine List.forall_mem_cons.mpr ⟨s_getf (idx := 64) (C := RX8) (T := TX8) (N := 10) rfl inX8 (by decide) q2_76 (by decide +kernel) rfl, ?_⟩
  refine List.forall_mem_cons.mpr ⟨s_iload_n (j := 1) (by decide +kernel) rfl rfl, ?_⟩
  refine List.forall_mem_cons.mpr ⟨s_aald (by decide +kernel) rfl, ?_⟩
  refine List.forall_mem_cons.mpr ⟨s_getf (idx := 230) (C := RX6) (T := TX6) (N := 4) rfl inX6 (by decide) q2_58 (by decide +kernel) rfl, ?_⟩
  refine List.forall_mem_cons.mpr ⟨s_iload_n (j := 2) (by decide +kernel) rfl rfl, ?_⟩
  refine List.forall_mem_cons.mpr ⟨s_aload_n (j := 0) (by decide +kernel) rfl rfl, ?_⟩
  refine List.forall_mem_cons.mpr ⟨s_getf (idx := 64) (C := RX8) (T := TX8) (N := 10) rfl inX8 (by decide) q2_76 (by decide +kernel) rfl, ?_⟩
  refine List.forall_mem_cons.mpr ⟨s_iload_n (j := 1) (by decide +kernel) rfl rfl, ?_⟩
  refine List.forall_mem_cons.mpr ⟨s_aald (by decide +kernel) rfl, ?_⟩
  refine List.forall_mem_cons.mpr ⟨s_lload_n (j := 3) (by decide +kernel) rfl rfl, ?_⟩
  refine List.forall_mem_cons.mpr ⟨s_callv (idx := 291) (k' := k_X6_kept) (T := TX6) (N := 4) rfl q4_77 q4_74 q4_75 q4_76 q1_9 de_X6_kept (by decide) (by decide +kernel) rfl, ?_⟩
  refine List.forall_mem_cons.mpr ⟨s_last (by decide +kernel) rfl, ?_⟩
  refine List.forall_mem_cons.mpr ⟨s_iconst (by decide +kernel) rfl, ?_⟩
  refine List.forall_mem_cons.mpr ⟨s_iret rfl (by decide +kernel), ?_⟩
  exact fun q hq => absurd hq List.not_mem_nil
def T_X8_element : List (Nat × zO) := [(0, o_aload 1 0), (1, o_iload 2 1), (2, o_iload 3 2), (3, o_callv 2 8 k_X8_refusalOfElement 6), (6, o_if_eq 15 9), (9, o_lconst 12 (-9223372036854775808)), (12, o_goto 26), (15, o_aload 16 0), (16, o_getf 19 8 7), (19, o_iload 20 1), (20, o_aald 21), (21, o_getf 24 6 2), (24, o_iload 25 2), (25, o_lald 26), (26, o_lret)]
set_option maxRecDepth 20000 in
theorem t_X8_element : ∀ q ∈ T_X8_element, zS k_X8_element q.1 q.2 := by
  unfold T_X8_element
  refine List.forall_mem_cons.mpr ⟨s_aload_n (j := 0) (by decide +kernel) rfl rfl, ?_⟩
  refine List.forall_mem_cons.mpr ⟨s_iload_n (j := 1) (by decide +kernel) rfl rfl, ?_⟩
  refine List.forall_mem_cons.mpr ⟨s_iload_n (j := 2) (by decide +kernel) rfl rfl, ?_⟩
  refine List.forall_mem_cons.mpr ⟨s_callv (idx := 288) (k' := k_X8_refusalOfElement) (T := TX8) (N := 10) rfl q4_73 q4_70 q4_72 qs_30 q1_1 de_X8_refusalOfElement (by decide) (by decide +kernel) rfl, ?_⟩
  refine List.forall_mem_cons.mpr ⟨s_if_eq (off := 9) (by decide +kernel) (by decide) rfl, ?_⟩
  refine List.forall_mem_cons.mpr ⟨s_ldc2 (idx := 297) (y := (-9223372036854775808)) (by decide +kernel) q4_82 rfl, ?_⟩
  refine List.forall_mem_cons.mpr ⟨s_goto (off := 14) (by decide +kernel) (by decide), ?_⟩
  refine List.forall_mem_cons.mpr ⟨s_aload_n (j := 0) (by decide +kernel) rfl rfl, ?_⟩
  refine List.forall_mem_cons.mpr ⟨s_getf (idx := 64) (C := RX8) (T := TX8) (N := 10) rfl inX8 (by decide) q2_76 (by decide +kernel) rfl, ?_⟩
  refine List.forall_mem_cons.mpr ⟨s_iload_n (j := 1) (by decide +kernel) rfl rfl, ?_⟩
  refine List.forall_mem_cons.mpr ⟨s_aald (by decide +kernel) rfl, ?_⟩
  refine List.forall_mem_cons.mpr ⟨s_getf (idx := 230) (C := RX6) (T := TX6) (N := 4) rfl inX6 (by decide) q2_58 (by decide +kernel) rfl, ?_⟩
  refine List.forall_mem_cons.mpr ⟨s_iload_n (j := 2) (by decide +kernel) rfl rfl, ?_⟩
  refine List.forall_mem_cons.mpr ⟨s_lald (by decide +kernel) rfl, ?_⟩
  refine List.forall_mem_cons.mpr ⟨s_lret rfl (by decide +kernel), ?_⟩
  exact fun q hq => absurd hq List.not_mem_nil
def T_X8_shift : List (Nat × zO) := [(0, o_iload 1 1), (1, o_calls 1 k_X8_isShelf 4), (4, o_if_eq 14 7), (7, o_iload 8 3), (8, o_calls 1 k_X8_isShelf 11), (11, o_if_ne 16 14), (14, o_const 15 (-1)), (15, o_iret), (16, o_aload 17 0), (17, o_getf 20 8 7), (20, o_iload 21 1), (21, o_aald 22), (22, o_astore 24 6), (24, o_aload 25 0), (25, o_getf 28 8 7), (28, o_iload 29 3), (29, o_aald 30), (30, o_astore 32 7), (32, o_aload 34 6), (34, o_getf 37 6 0), (37, o_const 38 (-1)), (38, o_icmp_eq 50 41), (41, o_aload 43 7), (43, o_getf 46 6 0), (46, o_const 47 (-1)), (47, o_icmp_ne 53 50), (50, o_const 52 (-11)), (52, o_iret), (53, o_aload 55 6), (55, o_getf 58 6 0), (58, o_const 59 5), (59, o_icmp_eq 75 62), (62, o_aload 64 6), (64, o_getf 67 6 0), (67, o_aload 69 7), (69, o_getf 72 6 0), (72, o_icmp_eq 78 75), (75, o_const 77 (-12)), (77, o_iret), (78, o_aload 80 6), (80, o_iload 81 2), (81, o_iload 83 5), (83, o_callv 2 6 k_X6_hasRun 86), (86, o_if_eq 101 89), (89, o_aload 91 7), (91, o_iload 93 4), (93, o_iload 95 5), (95, o_callv 2 6 k_X6_hasRun 98), (98, o_if_ne 104 101), (101, o_const 103 (-13)), (103, o_iret), (104, o_aload 106 6), (106, o_getf 109 6 2), (109, o_iload 110 2), (110, o_aload 112 7), (112, o_getf 115 6 2), (115, o_iload 117 4), (117, o_iload 119 5), (119, o_acopy 122), (122, o_iload 124 5), (124, o_iret)]
set_option maxRecDepth 20000 in
theorem t_X8_shift : ∀ q ∈ T_X8_shift, zS k_X8_shift q.1 q.2 := by
  unfold T_X8_shift
  refine List.forall_mem_cons.mpr ⟨s_iload_n (j := 1) (by decide +kernel) rfl rfl, ?_⟩
  refine List.forall_mem_cons.mpr ⟨s_calls (idx := 221) (k' := k_X8_isShelf) q3_166 q3_164 q3_165 q1_1 de_X8_isShelf (by decide) (by decide +kernel) rfl, ?_⟩
  refine List.forall_mem_cons.mpr ⟨s_if_eq (off := 10) (by decide +kernel) (by decide) rfl, ?_⟩
  refine List.forall_mem_cons.mpr ⟨s_iload_n (j := 3) (by decide +kernel) rfl rfl, ?_⟩
  refine List.forall_mem_cons.mpr ⟨s_calls (idx := 221) (k' := k_X8_isShelf) q3_166 q3_164 q3_165 q1_1 de_X8_isShelf (by decide) (by decide +kernel) rfl, ?_⟩
  refine List.forall_mem_cons.mpr ⟨s_if_ne (off := 5) (by decide +kernel) (by decide) rfl, ?_⟩
  refine List.forall_mem_cons.mpr ⟨s_iconst (by decide +kernel) rfl, ?_⟩
  refine List.forall_mem_cons.mpr ⟨s_iret rfl (by decide +kernel), ?_⟩
  refine List.forall_mem_cons.mpr ⟨s_aload_n (j := 0) (by decide +kernel) rfl rfl, ?_⟩
  refine List.forall_mem_cons.mpr ⟨s_getf (idx := 64) (C := RX8) (T := TX8) (N := 10) rfl inX8 (by decide) q2_76 (by decide +kernel) rfl, ?_⟩
  refine List.forall_mem_cons.mpr ⟨s_iload_n (j := 1) (by decide +kernel) rfl rfl, ?_⟩
  refine List.forall_mem_cons.mpr ⟨s_aald (by decide +kernel) rfl, ?_⟩
  refine List.forall_mem_cons.mpr ⟨s_astore (by decide +kernel) (by decide) rfl, ?_⟩
  refine List.forall_mem_cons.mpr ⟨s_aload_n (j := 0) (by decide +kernel) rfl rfl, ?_⟩
  refine List.forall_mem_cons.mpr ⟨s_getf (idx := 64) (C := RX8) (T := TX8) (N := 10) rfl inX8 (by decide) q2_76 (by decide +kernel) rfl, ?_⟩
  refine List.forall_mem_cons.mpr ⟨s_iload_n (j := 3) (by decide +kernel) rfl rfl, ?_⟩
  refine List.forall_mem_cons.mpr ⟨s_aald (by decide +kernel) rfl, ?_⟩
  refine List.forall_mem_cons.mpr ⟨s_astore (by decide +kernel) (by decide) rfl, ?_⟩
  refine List.forall_mem_cons.mpr ⟨s_aload (by decide +kernel) rfl, ?_⟩
  refine List.forall_mem_cons.mpr ⟨s_getf (idx := 224) (C := RX6) (T := TX6) (N := 4) rfl inX6 (by decide) q2_54 (by decide +kernel) rfl, ?_⟩
  refine List.forall_mem_cons.mpr ⟨s_iconst (by decide +kernel) rfl, ?_⟩
  refine List.forall_mem_cons.mpr ⟨s_icmp_eq (off := 12) (by decide +kernel) (by decide) rfl, ?_⟩
  refine List.forall_mem_cons.mpr ⟨s_aload (by decide +kernel) rfl, ?_⟩
  refine List.forall_mem_cons.mpr ⟨s_getf (idx := 224) (C := RX6) (T := TX6) (N := 4) rfl inX6 (by decide) q2_54 (by decide +kernel) rfl, ?_⟩
  refine List.forall_mem_cons.mpr ⟨s_iconst (by decide +kernel) rfl, ?_⟩
  refine List.forall_mem_cons.mpr ⟨s_icmp_ne (off := 6) (by decide +kernel) (by decide) rfl, ?_⟩
  refine List.forall_mem_cons.mpr ⟨s_bipush (by decide +kernel) (by decide) rfl, ?_⟩
  refine List.forall_mem_cons.mpr ⟨s_iret rfl (by decide +kernel), ?_⟩
  refine List.forall_mem_cons.mpr ⟨s_aload (by decide +kernel) rfl, ?_⟩
  refine List.forall_mem_cons.mpr ⟨s_getf (idx := 224) (C := RX6) (T := TX6) (N := 4) rfl inX6 (by decide) q2_54 (by decide +kernel) rfl, ?_⟩
  refine List.forall_mem_cons.mpr ⟨s_iconst (by decide +kernel) rfl, ?_⟩
  refine List.forall_mem_cons.mpr ⟨s_icmp_eq (off := 16) (by decide +kernel) (by decide) rfl, ?_⟩
  refine List.forall_mem_cons.mpr ⟨s_aload (by decide +kernel) rfl, ?_⟩
  refine List.forall_mem_cons.mpr ⟨s_getf (idx := 224) (C := RX6) (T := TX6) (N := 4) rfl inX6 (by decide) q2_54 (by decide +kernel) rfl, ?_⟩
  refine List.forall_mem_cons.mpr ⟨s_aload (by decide +kernel) rfl, ?_⟩
  refine List.forall_mem_cons.mpr ⟨s_getf (idx := 224) (C := RX6) (T := TX6) (N := 4) rfl inX6 (by decide) q2_54 (by decide +kernel) rfl, ?_⟩
  refine List.forall_mem_cons.mpr ⟨s_icmp_eq (off := 6) (by decide +kernel) (by decide) rfl, ?_⟩
  refine List.forall_mem_cons.mpr ⟨s_bipush (by decide +kernel) (by decide) rfl, ?_⟩
  refine List.forall_mem_cons.mpr ⟨s_iret rfl (by decide +kernel), ?_⟩
  refine List.forall_mem_cons.mpr ⟨s_aload (by decide +kernel) rfl, ?_⟩
  refine List.forall_mem_cons.mpr ⟨s_iload_n (j := 2) (by decide +kernel) rfl rfl, ?_⟩
  refine List.forall_mem_cons.mpr ⟨s_iload (by decide +kernel) rfl, ?_⟩
  refine List.forall_mem_cons.mpr ⟨s_callv (idx := 299) (k' := k_X6_hasRun) (T := TX6) (N := 4) rfl q4_90 q4_87 q4_88 q4_89 q1_9 de_X6_hasRun (by decide) (by decide +kernel) rfl, ?_⟩
  refine List.forall_mem_cons.mpr ⟨s_if_eq (off := 15) (by decide +kernel) (by decide) rfl, ?_⟩
  refine List.forall_mem_cons.mpr ⟨s_aload (by decide +kernel) rfl, ?_⟩
  refine List.forall_mem_cons.mpr ⟨s_iload (by decide +kernel) rfl, ?_⟩
  refine List.forall_mem_cons.mpr ⟨s_iload (by decide +kernel) rfl, ?_⟩
  refine List.forall_mem_cons.mpr ⟨s_callv (idx := 299) (k' := k_X6_hasRun) (T := TX6) (N := 4) rfl q4_90 q4_87 q4_88 q4_89 q1_9 de_X6_hasRun (by decide) (by decide +kernel) rfl, ?_⟩
  refine List.forall_mem_cons.mpr ⟨s_if_ne (off := 6) (by decide +kernel) (by decide) rfl, ?_⟩
  refine List.forall_mem_cons.mpr ⟨s_bipush (by decide +kernel) (by decide) rfl, ?_⟩
  refine List.forall_mem_cons.mpr ⟨s_iret rfl (by decide +kernel), ?_⟩
  refine List.forall_mem_cons.mpr ⟨s_aload (by decide +kernel) rfl, ?_⟩
  refine List.forall_mem_cons.mpr ⟨s_getf (idx := 230) (C := RX6) (T := TX6) (N := 4) rfl inX6 (by decide) q2_58 (by decide +kernel) rfl, ?_⟩
  refine List.forall_mem_cons.mpr ⟨s_iload_n (j := 2) (by decide +kernel) rfl rfl, ?_⟩
  refine List.forall_mem_cons.mpr ⟨s_aload (by decide +kernel) rfl, ?_⟩
  refine List.forall_mem_cons.mpr ⟨s_getf (idx := 230) (C := RX6) (T := TX6) (N := 4) rfl inX6 (by decide) q2_58 (by decide +kernel) rfl, ?_⟩
  refine List.forall_mem_cons.mpr ⟨s_iload (by decide +kernel) rfl, ?_⟩
  refine List.forall_mem_cons.mpr ⟨s_iload (by decide +kernel) rfl, ?_⟩
  refine List.forall_mem_cons.mpr ⟨s_acopy (idx := 302) q4_91 q2_138 q2_137 q1_11 (by decide +kernel) rfl, ?_⟩
  refine List.forall_mem_cons.mpr ⟨s_iload (by decide +kernel) rfl, ?_⟩
  refine List.forall_mem_cons.mpr ⟨s_iret rfl (by decide +kernel), ?_⟩
  exact fun q hq => absurd hq List.not_mem_nil
def T_X8_taken : List (Nat × zO) := [(0, o_iload 1 1), (1, o_calls 1 k_X8_isShelf 4), (4, o_if_eq 17 7), (7, o_iload 8 2), (8, o_const 9 0), (9, o_const 11 6), (11, o_calls 3 k_X8_within 14), (14, o_if_ne 19 17), (17, o_const 18 (-1)), (18, o_iret), (19, o_aload 20 0), (20, o_getf 23 8 7), (23, o_iload 24 1), (24, o_aald 25), (25, o_getf 28 6 0), (28, o_const 29 (-1)), (29, o_icmp_ne 35 32), (32, o_const 34 (-11)), (34, o_iret), (35, o_aload 36 0), (36, o_getf 39 8 7), (39, o_iload 40 1), (40, o_aald 41), (41, o_getf 44 6 0), (44, o_const 45 5), (45, o_icmp_eq 51 48), (48, o_const 50 (-12)), (50, o_iret), (51, o_aload 52 0), (52, o_getf 55 8 6), (55, o_getf 58 0 0), (58, o_aload 59 0), (59, o_getf 62 8 7), (62, o_iload 63 1), (63, o_aald 64), (64, o_getf 67 6 1), (67, o_iald 68), (68, o_istore 69 3), (69, o_iload 70 3), (70, o_iload 71 2), (71, o_calls 2 k_X0_isOrUnder 74), (74, o_if_eq 81 77), (77, o_iload 78 3), (78, o_goto 83), (81, o_const 83 (-12)), (83, o_iret)]
set_option maxRecDepth 20000 in
theorem t_X8_taken : ∀ q ∈ T_X8_taken, zS k_X8_taken q.1 q.2 := by
  unfold T_X8_taken
  refine List.forall_mem_cons.mpr ⟨s_iload_n (j := 1) (by decide +kernel) rfl rfl, ?_⟩
  refine List.forall_mem_cons.mpr ⟨s_calls (idx := 221) (k' := k_X8_isShelf) q3_166 q3_164 q3_165 q1_1 de_X8_isShelf (by decide) (by decide +kernel) rfl, ?_⟩
  refine List.forall_mem_cons.mpr ⟨s_if_eq (off := 13) (by decide +kernel) (by decide) rfl, ?_⟩
  refine List.forall_mem_cons.mpr ⟨s_iload_n (j := 2) (by decide +kernel) rfl rfl, ?_⟩
  refine List.forall_mem_cons.mpr ⟨s_iconst (by decide +kernel) rfl, ?_⟩
  refine List.forall_mem_cons.mpr ⟨s_bipush (by decide +kernel) (by decide) rfl, ?_⟩
  refine List.forall_mem_cons.mpr ⟨s_calls (idx := 101) (k' := k_X8_within) q2_145 q2_143 q2_144 q1_1 de_X8_within (by decide) (by decide +kernel) rfl, ?_⟩
  refine List.forall_mem_cons.mpr ⟨s_if_ne (off := 5) (by decide +kernel) (by decide) rfl, ?_⟩
  refine List.forall_mem_cons.mpr ⟨s_iconst (by decide +kernel) rfl, ?_⟩
  refine List.forall_mem_cons.mpr ⟨s_iret rfl (by decide +kernel), ?_⟩
  refine List.forall_mem_cons.mpr ⟨s_aload_n (j := 0) (by decide +kernel) rfl rfl, ?_⟩
  refine List.forall_mem_cons.mpr ⟨s_getf (idx := 64) (C := RX8) (T := TX8) (N := 10) rfl inX8 (by decide) q2_76 (by decide +kernel) rfl, ?_⟩
  refine List.forall_mem_cons.mpr ⟨s_iload_n (j := 1) (by decide +kernel) rfl rfl, ?_⟩
  refine List.forall_mem_cons.mpr ⟨s_aald (by decide +kernel) rfl, ?_⟩
  refine List.forall_mem_cons.mpr ⟨s_getf (idx := 224) (C := RX6) (T := TX6) (N := 4) rfl inX6 (by decide) q2_54 (by decide +kernel) rfl, ?_⟩
  refine List.forall_mem_cons.mpr ⟨s_iconst (by decide +kernel) rfl, ?_⟩
  refine List.forall_mem_cons.mpr ⟨s_icmp_ne (off := 6) (by decide +kernel) (by decide) rfl, ?_⟩
  refine List.forall_mem_cons.mpr ⟨s_bipush (by decide +kernel) (by decide) rfl, ?_⟩
  refine List.forall_mem_cons.mpr ⟨s_iret rfl (by decide +kernel), ?_⟩
  refine List.forall_mem_cons.mpr ⟨s_aload_n (j := 0) (by decide +kernel) rfl rfl, ?_⟩
  refine List.forall_mem_cons.mpr ⟨s_getf (idx := 64) (C := RX8) (T := TX8) (N := 10) rfl inX8 (by decide) q2_76 (by decide +kernel) rfl, ?_⟩
  refine List.forall_mem_cons.mpr ⟨s_iload_n (j := 1) (by decide +kernel) rfl rfl, ?_⟩
  refine List.forall_mem_cons.mpr ⟨s_aald (by decide +kernel) rfl, ?_⟩
  refine List.forall_mem_cons.mpr ⟨s_getf (idx := 224) (C := RX6) (T := TX6) (N := 4) rfl inX6 (by decide) q2_54 (by decide +kernel) rfl, ?_⟩
  refine List.forall_mem_cons.mpr ⟨s_iconst (by decide +kernel) rfl, ?_⟩
  refine List.forall_mem_cons.mpr ⟨s_icmp_eq (off := 6) (by decide +kernel) (by decide) rfl, ?_⟩
  refine List.forall_mem_cons.mpr ⟨s_bipush (by decide +kernel) (by decide) rfl, ?_⟩
  refine List.forall_mem_cons.mpr ⟨s_iret rfl (by decide +kernel), ?_⟩
  refine List.forall_mem_cons.mpr ⟨s_aload_n (j := 0) (by decide +kernel) rfl rfl, ?_⟩
  refine List.forall_mem_cons.mpr ⟨s_getf (idx := 58) (C := RX8) (T := TX8) (N := 10) rfl inX8 (by decide) q2_75 (by decide +kernel) rfl, ?_⟩
  refine List.forall_mem_cons.mpr ⟨s_getf (idx := 308) (C := RX0) (T := TX0) (N := 5) rfl inX0 (by decide) q2_27 (by decide +kernel) rfl, ?_⟩
  refine List.forall_mem_cons.mpr ⟨s_aload_n (j := 0) (by decide +kernel) rfl rfl, ?_⟩
  refine List.forall_mem_cons.mpr ⟨s_getf (idx := 64) (C := RX8) (T := TX8) (N := 10) rfl inX8 (by decide) q2_76 (by decide +kernel) rfl, ?_⟩
  refine List.forall_mem_cons.mpr ⟨s_iload_n (j := 1) (by decide +kernel) rfl rfl, ?_⟩
  refine List.forall_mem_cons.mpr ⟨s_aald (by decide +kernel) rfl, ?_⟩
  refine List.forall_mem_cons.mpr ⟨s_getf (idx := 311) (C := RX6) (T := TX6) (N := 4) rfl inX6 (by decide) q2_56 (by decide +kernel) rfl, ?_⟩
  refine List.forall_mem_cons.mpr ⟨s_iald (by decide +kernel) rfl, ?_⟩
  refine List.forall_mem_cons.mpr ⟨s_istore_n (j := 3) (by decide +kernel) rfl (by decide) rfl, ?_⟩
  refine List.forall_mem_cons.mpr ⟨s_iload_n (j := 3) (by decide +kernel) rfl rfl, ?_⟩
  refine List.forall_mem_cons.mpr ⟨s_iload_n (j := 2) (by decide +kernel) rfl rfl, ?_⟩
  refine List.forall_mem_cons.mpr ⟨s_calls (idx := 314) (k' := k_X0_isOrUnder) q4_98 q4_96 q4_97 q1_8 de_X0_isOrUnder (by decide) (by decide +kernel) rfl, ?_⟩
  refine List.forall_mem_cons.mpr ⟨s_if_eq (off := 7) (by decide +kernel) (by decide) rfl, ?_⟩
  refine List.forall_mem_cons.mpr ⟨s_iload_n (j := 3) (by decide +kernel) rfl rfl, ?_⟩
  refine List.forall_mem_cons.mpr ⟨s_goto (off := 5) (by decide +kernel) (by decide), ?_⟩
  refine List.forall_mem_cons.mpr ⟨s_bipush (by decide +kernel) (by decide) rfl, ?_⟩
  refine List.forall_mem_cons.mpr ⟨s_iret rfl (by decide +kernel), ?_⟩
  exact fun q hq => absurd hq List.not_mem_nil
def T_X8_count : List (Nat × zO) := [(0, o_iload 1 1), (1, o_tsw 0 9 [56, 64, 72, 80, 88, 96, 104, 109, 117, 125] 133), (56, o_aload 57 0), (57, o_getf 60 8 1), (60, o_getf 63 2 0), (63, o_iret), (64, o_aload 65 0), (65, o_getf 68 8 1), (68, o_getf 71 2 4), (71, o_iret), (72, o_aload 73 0), (73, o_getf 76 8 1), (76, o_getf 79 2 8), (79, o_iret), (80, o_aload 81 0), (81, o_getf 84 8 1), (84, o_getf 87 2 10), (87, o_iret), (88, o_aload 89 0), (89, o_getf 92 8 0), (92, o_getf 95 7 1), (95, o_iret), (96, o_aload 97 0), (97, o_getf 100 8 4), (100, o_getf 103 3 3), (103, o_iret), (104, o_aload 105 0), (105, o_getf 108 8 9), (108, o_iret), (109, o_aload 110 0), (110, o_getf 113 8 5), (113, o_getf 116 1 5), (116, o_iret), (117, o_aload 118 0), (118, o_getf 121 8 6), (121, o_getf 124 0 1), (124, o_iret), (125, o_aload 126 0), (126, o_getf 129 8 6), (129, o_getf 132 0 3), (132, o_iret), (133, o_const 134 (-1)), (134, o_iret)]
set_option maxRecDepth 20000 in
theorem t_X8_count : ∀ q ∈ T_X8_count, zS k_X8_count q.1 q.2 := by
  unfold T_X8_count
  refine List.forall_mem_cons.mpr ⟨s_iload_n (j := 1) (by decide +kernel) rfl rfl, ?_⟩
  refine List.forall_mem_cons.mpr ⟨s_tsw (dfo := 132) (offs := #[55, 63, 71, 79, 87, 95, 103, 108, 116, 124]) (len := 55) (by decide +kernel) (by decide) (by decide) (by decide), ?_⟩
  refine List.forall_mem_cons.mpr ⟨s_aload_n (j := 0) (by decide +kernel) rfl rfl, ?_⟩
  refine List.forall_mem_cons.mpr ⟨s_getf (idx := 19) (C := RX8) (T := TX8) (N := 10) rfl inX8 (by decide) q2_70 (by decide +kernel) rfl, ?_⟩
  refine List.forall_mem_cons.mpr ⟨s_getf (idx := 81) (C := RX2) (T := TX2) (N := 20) rfl inX2 (by decide) q1_59 (by decide +kernel) rfl, ?_⟩
  refine List.forall_mem_cons.mpr ⟨s_iret rfl (by decide +kernel), ?_⟩
  refine List.forall_mem_cons.mpr ⟨s_aload_n (j := 0) (by decide +kernel) rfl rfl, ?_⟩
  refine List.forall_mem_cons.mpr ⟨s_getf (idx := 19) (C := RX8) (T := TX8) (N := 10) rfl inX8 (by decide) q2_70 (by decide +kernel) rfl, ?_⟩
  refine List.forall_mem_cons.mpr ⟨s_getf (idx := 105) (C := RX2) (T := TX2) (N := 20) rfl inX2 (by decide) q1_65 (by decide +kernel) rfl, ?_⟩
  refine List.forall_mem_cons.mpr ⟨s_iret rfl (by decide +kernel), ?_⟩
  refine List.forall_mem_cons.mpr ⟨s_aload_n (j := 0) (by decide +kernel) rfl rfl, ?_⟩
  refine List.forall_mem_cons.mpr ⟨s_getf (idx := 19) (C := RX8) (T := TX8) (N := 10) rfl inX8 (by decide) q2_70 (by decide +kernel) rfl, ?_⟩
  refine List.forall_mem_cons.mpr ⟨s_getf (idx := 120) (C := RX2) (T := TX2) (N := 20) rfl inX2 (by decide) q1_71 (by decide +kernel) rfl, ?_⟩
  refine List.forall_mem_cons.mpr ⟨s_iret rfl (by decide +kernel), ?_⟩
  refine List.forall_mem_cons.mpr ⟨s_aload_n (j := 0) (by decide +kernel) rfl rfl, ?_⟩
  refine List.forall_mem_cons.mpr ⟨s_getf (idx := 19) (C := RX8) (T := TX8) (N := 10) rfl inX8 (by decide) q2_70 (by decide +kernel) rfl, ?_⟩
  refine List.forall_mem_cons.mpr ⟨s_getf (idx := 129) (C := RX2) (T := TX2) (N := 20) rfl inX2 (by decide) q1_79 (by decide +kernel) rfl, ?_⟩
  refine List.forall_mem_cons.mpr ⟨s_iret rfl (by decide +kernel), ?_⟩
  refine List.forall_mem_cons.mpr ⟨s_aload_n (j := 0) (by decide +kernel) rfl rfl, ?_⟩
  refine List.forall_mem_cons.mpr ⟨s_getf (idx := 10) (C := RX8) (T := TX8) (N := 10) rfl inX8 (by decide) q2_69 (by decide +kernel) rfl, ?_⟩
  refine List.forall_mem_cons.mpr ⟨s_getf (idx := 77) (C := RX7) (T := TX7) (N := 6) rfl inX7 (by decide) q1_30 (by decide +kernel) rfl, ?_⟩
  refine List.forall_mem_cons.mpr ⟨s_iret rfl (by decide +kernel), ?_⟩
  refine List.forall_mem_cons.mpr ⟨s_aload_n (j := 0) (by decide +kernel) rfl rfl, ?_⟩
  refine List.forall_mem_cons.mpr ⟨s_getf (idx := 44) (C := RX8) (T := TX8) (N := 10) rfl inX8 (by decide) q2_73 (by decide +kernel) rfl, ?_⟩
  refine List.forall_mem_cons.mpr ⟨s_getf (idx := 218) (C := RX3) (T := TX3) (N := 7) rfl inX3 (by decide) q1_209 (by decide +kernel) rfl, ?_⟩
  refine List.forall_mem_cons.mpr ⟨s_iret rfl (by decide +kernel), ?_⟩
  refine List.forall_mem_cons.mpr ⟨s_aload_n (j := 0) (by decide +kernel) rfl rfl, ?_⟩
  refine List.forall_mem_cons.mpr ⟨s_getf (idx := 246) (C := RX8) (T := TX8) (N := 10) rfl inX8 (by decide) q2_78 (by decide +kernel) rfl, ?_⟩
  refine List.forall_mem_cons.mpr ⟨s_iret rfl (by decide +kernel), ?_⟩
  refine List.forall_mem_cons.mpr ⟨s_aload_n (j := 0) (by decide +kernel) rfl rfl, ?_⟩
  refine List.forall_mem_cons.mpr ⟨s_getf (idx := 51) (C := RX8) (T := TX8) (N := 10) rfl inX8 (by decide) q2_74 (by decide +kernel) rfl, ?_⟩
  refine List.forall_mem_cons.mpr ⟨s_getf (idx := 256) (C := RX1) (T := TX1) (N := 7) rfl inX1 (by decide) q2_2 (by decide +kernel) rfl, ?_⟩
  refine List.forall_mem_cons.mpr ⟨s_iret rfl (by decide +kernel), ?_⟩
  refine List.forall_mem_cons.mpr ⟨s_aload_n (j := 0) (by decide +kernel) rfl rfl, ?_⟩
  refine List.forall_mem_cons.mpr ⟨s_getf (idx := 58) (C := RX8) (T := TX8) (N := 10) rfl inX8 (by decide) q2_75 (by decide +kernel) rfl, ?_⟩
  refine List.forall_mem_cons.mpr ⟨s_getf (idx := 265) (C := RX0) (T := TX0) (N := 5) rfl inX0 (by decide) q2_29 (by decide +kernel) rfl, ?_⟩
  refine List.forall_mem_cons.mpr ⟨s_iret rfl (by decide +kernel), ?_⟩
  refine List.forall_mem_cons.mpr ⟨s_aload_n (j := 0) (by decide +kernel) rfl rfl, ?_⟩
  refine List.forall_mem_cons.mpr ⟨s_getf (idx := 58) (C := RX8) (T := TX8) (N := 10) rfl inX8 (by decide) q2_75 (by decide +kernel) rfl, ?_⟩
  refine List.forall_mem_cons.mpr ⟨s_getf (idx := 271) (C := RX0) (T := TX0) (N := 5) rfl inX0 (by decide) q2_33 (by decide +kernel) rfl, ?_⟩
  refine List.forall_mem_cons.mpr ⟨s_iret rfl (by decide +kernel), ?_⟩
  refine List.forall_mem_cons.mpr ⟨s_iconst (by decide +kernel) rfl, ?_⟩
  refine List.forall_mem_cons.mpr ⟨s_iret rfl (by decide +kernel), ?_⟩
  exact fun q hq => absurd hq List.not_mem_nil
def T_X8_within : List (Nat × zO) := [(0, o_iload 1 0), (1, o_iload 2 1), (2, o_icmp_lt 14 5), (5, o_iload 6 0), (6, o_iload 7 2), (7, o_icmp_gt 14 10), (10, o_const 11 1), (11, o_goto 15), (14, o_const 15 0), (15, o_zret)]
set_option maxRecDepth 20000 in
theorem t_X8_within : ∀ q ∈ T_X8_within, zS k_X8_within q.1 q.2 := by
  unfold T_X8_within
  refine List.forall_mem_cons.mpr ⟨s_iload_n (j := 0) (by decide +kernel) rfl rfl, ?_⟩
  refine List.forall_mem_cons.mpr ⟨s_iload_n (j := 1) (by decide +kernel) rfl rfl, ?_⟩
  refine List.forall_mem_cons.mpr ⟨s_icmp_lt (off := 12) (by decide +kernel) (by decide) rfl, ?_⟩
  refine List.forall_mem_cons.mpr ⟨s_iload_n (j := 0) (by decide +kernel) rfl rfl, ?_⟩
  refine List.forall_mem_cons.mpr ⟨s_iload_n (j := 2) (by decide +kernel) rfl rfl, ?_⟩
  refine List.forall_mem_cons.mpr ⟨s_icmp_gt (off := 7) (by decide +kernel) (by decide) rfl, ?_⟩
  refine List.forall_mem_cons.mpr ⟨s_iconst (by decide +kernel) rfl, ?_⟩
  refine List.forall_mem_cons.mpr ⟨s_goto (off := 4) (by decide +kernel) (by decide), ?_⟩
  refine List.forall_mem_cons.mpr ⟨s_iconst (by decide +kernel) rfl, ?_⟩
  refine List.forall_mem_cons.mpr ⟨s_zret rfl (by decide +kernel), ?_⟩
  exact fun q hq => absurd hq List.not_mem_nil
def T_X8_isMinute : List (Nat × zO) := [(0, o_iload 1 0), (1, o_const 2 0), (2, o_const 5 1439), (5, o_calls 3 k_X8_within 8), (8, o_zret)]
set_option maxRecDepth 20000 in
theorem t_X8_isMinute : ∀ q ∈ T_X8_isMinute, zS k_X8_isMinute q.1 q.2 := by
  unfold T_X8_isMinute
  refine List.forall_mem_cons.mpr ⟨s_iload_n (j := 0) (by decide +kernel) rfl rfl, ?_⟩
  refine List.forall_mem_cons.mpr ⟨s_iconst (by decide +kernel) rfl, ?_⟩
  refine List.forall_mem_cons.mpr ⟨s_sipush (by decide +kernel) (by decide) rfl, ?_⟩
  refine List.forall_mem_cons.mpr ⟨s_calls (idx := 101) (k' := k_X8_within) q2_145 q2_143 q2_144 q1_1 de_X8_within (by decide) (by decide +kernel) rfl, ?_⟩
  refine List.forall_mem_cons.mpr ⟨s_zret rfl (by decide +kernel), ?_⟩
  exact fun q hq => absurd hq List.not_mem_nil
def T_X8_isSort : List (Nat × zO) := [(0, o_iload 1 0), (1, o_const 2 0), (2, o_const 3 3), (3, o_calls 3 k_X8_within 6), (6, o_zret)]
set_option maxRecDepth 20000 in
theorem t_X8_isSort : ∀ q ∈ T_X8_isSort, zS k_X8_isSort q.1 q.2 := by
  unfold T_X8_isSort
  refine List.forall_mem_cons.mpr ⟨s_iload_n (j := 0) (by decide +kernel) rfl rfl, ?_⟩
  refine List.forall_mem_cons.mpr ⟨s_iconst (by decide +kernel) rfl, ?_⟩
  refine List.forall_mem_cons.mpr ⟨s_iconst (by decide +kernel) rfl, ?_⟩
  refine List.forall_mem_cons.mpr ⟨s_calls (idx := 101) (k' := k_X8_within) q2_145 q2_143 q2_144 q1_1 de_X8_within (by decide) (by decide +kernel) rfl, ?_⟩
  refine List.forall_mem_cons.mpr ⟨s_zret rfl (by decide +kernel), ?_⟩
  exact fun q hq => absurd hq List.not_mem_nil
def T_X8_isShelf : List (Nat × zO) := [(0, o_iload 1 0), (1, o_const 2 0), (2, o_const 3 5), (3, o_calls 3 k_X8_within 6), (6, o_zret)]
set_option maxRecDepth 20000 in
theorem t_X8_isShelf : ∀ q ∈ T_X8_isShelf, zS k_X8_isShelf q.1 q.2 := by
  unfold T_X8_isShelf
  refine List.forall_mem_cons.mpr ⟨s_iload_n (j := 0) (by decide +kernel) rfl rfl, ?_⟩
  refine List.forall_mem_cons.mpr ⟨s_iconst (by decide +kernel) rfl, ?_⟩
  refine List.forall_mem_cons.mpr ⟨s_iconst (by decide +kernel) rfl, ?_⟩
  refine List.forall_mem_cons.mpr ⟨s_calls (idx := 101) (k' := k_X8_within) q2_145 q2_143 q2_144 q1_1 de_X8_within (by decide) (by decide +kernel) rfl, ?_⟩
  refine List.forall_mem_cons.mpr ⟨s_zret rfl (by decide +kernel), ?_⟩
  exact fun q hq => absurd hq List.not_mem_nil
def T_X8_isPlace : List (Nat × zO) := [(0, o_iload 1 1), (1, o_const 2 0), (2, o_aload 3 0), (3, o_getf 6 8 1), (6, o_getf 9 2 8), (9, o_const 10 1), (10, o_isub 11), (11, o_calls 3 k_X8_within 14), (14, o_zret)]
set_option maxRecDepth 20000 in
theorem t_X8_isPlace : ∀ q ∈ T_X8_isPlace, zS k_X8_isPlace q.1 q.2 := by
  unfold T_X8_isPlace
  refine List.forall_mem_cons.mpr ⟨s_iload_n (j := 1) (by decide +kernel) rfl rfl, ?_⟩
  refine List.forall_mem_cons.mpr ⟨s_iconst (by decide +kernel) rfl, ?_⟩
  refine List.forall_mem_cons.mpr ⟨s_aload_n (j := 0) (by decide +kernel) rfl rfl, ?_⟩
  refine List.forall_mem_cons.mpr ⟨s_getf (idx := 19) (C := RX8) (T := TX8) (N := 10) rfl inX8 (by decide) q2_70 (by decide +kernel) rfl, ?_⟩
  refine List.forall_mem_cons.mpr ⟨s_getf (idx := 120) (C := RX2) (T := TX2) (N := 20) rfl inX2 (by decide) q1_71 (by decide +kernel) rfl, ?_⟩
  refine List.forall_mem_cons.mpr ⟨s_iconst (by decide +kernel) rfl, ?_⟩
  refine List.forall_mem_cons.mpr ⟨s_isub (by decide +kernel) rfl, ?_⟩
  refine List.forall_mem_cons.mpr ⟨s_calls (idx := 101) (k' := k_X8_within) q2_145 q2_143 q2_144 q1_1 de_X8_within (by decide) (by decide +kernel) rfl, ?_⟩
  refine List.forall_mem_cons.mpr ⟨s_zret rfl (by decide +kernel), ?_⟩
  exact fun q hq => absurd hq List.not_mem_nil
def T_X8_isWay : List (Nat × zO) := [(0, o_iload 1 1), (1, o_const 2 0), (2, o_aload 3 0), (3, o_getf 6 8 1), (6, o_getf 9 2 10), (9, o_const 10 1), (10, o_isub 11), (11, o_calls 3 k_X8_within 14), (14, o_zret)]
set_option maxRecDepth 20000 in
theorem t_X8_isWay : ∀ q ∈ T_X8_isWay, zS k_X8_isWay q.1 q.2 := by
  unfold T_X8_isWay
  refine List.forall_mem_cons.mpr ⟨s_iload_n (j := 1) (by decide +kernel) rfl rfl, ?_⟩
  refine List.forall_mem_cons.mpr ⟨s_iconst (by decide +kernel) rfl, ?_⟩
  refine List.forall_mem_cons.mpr ⟨s_aload_n (j := 0) (by decide +kernel) rfl rfl, ?_⟩
  refine List.forall_mem_cons.mpr ⟨s_getf (idx := 19) (C := RX8) (T := TX8) (N := 10) rfl inX8 (by decide) q2_70 (by decide +kernel) rfl, ?_⟩
  refine List.forall_mem_cons.mpr ⟨s_getf (idx := 129) (C := RX2) (T := TX2) (N := 20) rfl inX2 (by decide) q1_79 (by decide +kernel) rfl, ?_⟩
  refine List.forall_mem_cons.mpr ⟨s_iconst (by decide +kernel) rfl, ?_⟩
  refine List.forall_mem_cons.mpr ⟨s_isub (by decide +kernel) rfl, ?_⟩
  refine List.forall_mem_cons.mpr ⟨s_calls (idx := 101) (k' := k_X8_within) q2_145 q2_143 q2_144 q1_1 de_X8_within (by decide) (by decide +kernel) rfl, ?_⟩
  refine List.forall_mem_cons.mpr ⟨s_zret rfl (by decide +kernel), ?_⟩
  exact fun q hq => absurd hq List.not_mem_nil
def T_X8_isPair : List (Nat × zO) := [(0, o_iload 1 1), (1, o_if_lt 41 4), (4, o_aload 5 0), (5, o_iload 6 1), (6, o_const 8 100), (8, o_idiv 9), (9, o_callv 1 8 k_X8_isPlace 12), (12, o_if_eq 41 15), (15, o_aload 16 0), (16, o_iload 17 1), (17, o_const 19 100), (19, o_irem 20), (20, o_callv 1 8 k_X8_isPlace 23), (23, o_if_eq 41 26), (26, o_iload 27 1), (27, o_const 29 100), (29, o_idiv 30), (30, o_iload 31 1), (31, o_const 33 100), (33, o_irem 34), (34, o_icmp_eq 41 37), (37, o_const 38 1), (38, o_goto 42), (41, o_const 42 0), (42, o_zret)]
set_option maxRecDepth 20000 in
theorem t_X8_isPair : ∀ q ∈ T_X8_isPair, zS k_X8_isPair q.1 q.2 := by
  unfold T_X8_isPair
  refine List.forall_mem_cons.mpr ⟨s_iload_n (j := 1) (by decide +kernel) rfl rfl, ?_⟩
  refine List.forall_mem_cons.mpr ⟨s_if_lt (off := 40) (by decide +kernel) (by decide) rfl, ?_⟩
  refine List.forall_mem_cons.mpr ⟨s_aload_n (j := 0) (by decide +kernel) rfl rfl, ?_⟩
  refine List.forall_mem_cons.mpr ⟨s_iload_n (j := 1) (by decide +kernel) rfl rfl, ?_⟩
  refine List.forall_mem_cons.mpr ⟨s_bipush (by decide +kernel) (by decide) rfl, ?_⟩
  refine List.forall_mem_cons.mpr ⟨s_idiv (by decide +kernel) rfl, ?_⟩
  refine List.forall_mem_cons.mpr ⟨s_callv (idx := 136) (k' := k_X8_isPlace) (T := TX8) (N := 10) rfl q2_187 q2_184 q2_186 qs_5 q1_1 de_X8_isPlace (by decide) (by decide +kernel) rfl, ?_⟩
  refine List.forall_mem_cons.mpr ⟨s_if_eq (off := 29) (by decide +kernel) (by decide) rfl, ?_⟩
  refine List.forall_mem_cons.mpr ⟨s_aload_n (j := 0) (by decide +kernel) rfl rfl, ?_⟩
  refine List.forall_mem_cons.mpr ⟨s_iload_n (j := 1) (by decide +kernel) rfl rfl, ?_⟩
  refine List.forall_mem_cons.mpr ⟨s_bipush (by decide +kernel) (by decide) rfl, ?_⟩
  refine List.forall_mem_cons.mpr ⟨s_irem (by decide +kernel) rfl, ?_⟩
  refine List.forall_mem_cons.mpr ⟨s_callv (idx := 136) (k' := k_X8_isPlace) (T := TX8) (N := 10) rfl q2_187 q2_184 q2_186 qs_5 q1_1 de_X8_isPlace (by decide) (by decide +kernel) rfl, ?_⟩
  refine List.forall_mem_cons.mpr ⟨s_if_eq (off := 18) (by decide +kernel) (by decide) rfl, ?_⟩
  refine List.forall_mem_cons.mpr ⟨s_iload_n (j := 1) (by decide +kernel) rfl rfl, ?_⟩
  refine List.forall_mem_cons.mpr ⟨s_bipush (by decide +kernel) (by decide) rfl, ?_⟩
  refine List.forall_mem_cons.mpr ⟨s_idiv (by decide +kernel) rfl, ?_⟩
  refine List.forall_mem_cons.mpr ⟨s_iload_n (j := 1) (by decide +kernel) rfl rfl, ?_⟩
  refine List.forall_mem_cons.mpr ⟨s_bipush (by decide +kernel) (by decide) rfl, ?_⟩
  refine List.forall_mem_cons.mpr ⟨s_irem (by decide +kernel) rfl, ?_⟩
  refine List.forall_mem_cons.mpr ⟨s_icmp_eq (off := 7) (by decide +kernel) (by decide) rfl, ?_⟩
  refine List.forall_mem_cons.mpr ⟨s_iconst (by decide +kernel) rfl, ?_⟩
  refine List.forall_mem_cons.mpr ⟨s_goto (off := 4) (by decide +kernel) (by decide), ?_⟩
  refine List.forall_mem_cons.mpr ⟨s_iconst (by decide +kernel) rfl, ?_⟩
  refine List.forall_mem_cons.mpr ⟨s_zret rfl (by decide +kernel), ?_⟩
  exact fun q hq => absurd hq List.not_mem_nil
def T_X8_isFrom : List (Nat × zO) := [(0, o_iload 1 1), (1, o_if_lt 31 4), (4, o_aload 5 0), (5, o_iload 6 1), (6, o_const 9 10000), (9, o_idiv 10), (10, o_callv 1 8 k_X8_isPlace 13), (13, o_if_eq 31 16), (16, o_iload 17 1), (17, o_const 20 10000), (20, o_irem 21), (21, o_calls 1 k_X8_isMinute 24), (24, o_if_eq 31 27), (27, o_const 28 1), (28, o_goto 32), (31, o_const 32 0), (32, o_zret)]
set_option maxRecDepth 20000 in
theorem t_X8_isFrom : ∀ q ∈ T_X8_isFrom, zS k_X8_isFrom q.1 q.2 := by
  unfold T_X8_isFrom
  refine List.forall_mem_cons.mpr ⟨s_iload_n (j := 1) (by decide +kernel) rfl rfl, ?_⟩
  refine List.forall_mem_cons.mpr ⟨s_if_lt (off := 30) (by decide +kernel) (by decide) rfl, ?_⟩
  refine List.forall_mem_cons.mpr ⟨s_aload_n (j := 0) (by decide +kernel) rfl rfl, ?_⟩
  refine List.forall_mem_cons.mpr ⟨s_iload_n (j := 1) (by decide +kernel) rfl rfl, ?_⟩
  refine List.forall_mem_cons.mpr ⟨s_sipush (by decide +kernel) (by decide) rfl, ?_⟩
  refine List.forall_mem_cons.mpr ⟨s_idiv (by decide +kernel) rfl, ?_⟩
  refine List.forall_mem_cons.mpr ⟨s_callv (idx := 136) (k' := k_X8_isPlace) (T := TX8) (N := 10) rfl q2_187 q2_184 q2_186 qs_5 q1_1 de_X8_isPlace (by decide) (by decide +kernel) rfl, ?_⟩
  refine List.forall_mem_cons.mpr ⟨s_if_eq (off := 18) (by decide +kernel) (by decide) rfl, ?_⟩
  refine List.forall_mem_cons.mpr ⟨s_iload_n (j := 1) (by decide +kernel) rfl rfl, ?_⟩
  refine List.forall_mem_cons.mpr ⟨s_sipush (by decide +kernel) (by decide) rfl, ?_⟩
  refine List.forall_mem_cons.mpr ⟨s_irem (by decide +kernel) rfl, ?_⟩
  refine List.forall_mem_cons.mpr ⟨s_calls (idx := 112) (k' := k_X8_isMinute) q2_156 q2_154 q2_155 q1_1 de_X8_isMinute (by decide) (by decide +kernel) rfl, ?_⟩
  refine List.forall_mem_cons.mpr ⟨s_if_eq (off := 7) (by decide +kernel) (by decide) rfl, ?_⟩
  refine List.forall_mem_cons.mpr ⟨s_iconst (by decide +kernel) rfl, ?_⟩
  refine List.forall_mem_cons.mpr ⟨s_goto (off := 4) (by decide +kernel) (by decide), ?_⟩
  refine List.forall_mem_cons.mpr ⟨s_iconst (by decide +kernel) rfl, ?_⟩
  refine List.forall_mem_cons.mpr ⟨s_zret rfl (by decide +kernel), ?_⟩
  exact fun q hq => absurd hq List.not_mem_nil
def T_X8_isSortAndTide : List (Nat × zO) := [(0, o_iload 1 1), (1, o_if_lt 32 4), (4, o_iload 5 1), (5, o_const 7 10), (7, o_idiv 8), (8, o_calls 1 k_X8_isSort 11), (11, o_if_eq 32 14), (14, o_iload 15 1), (15, o_const 17 10), (17, o_irem 18), (18, o_aload 19 0), (19, o_getf 22 8 1), (22, o_getf 25 2 0), (25, o_icmp_ge 32 28), (28, o_const 29 1), (29, o_goto 33), (32, o_const 33 0), (33, o_zret)]
set_option maxRecDepth 20000 in
theorem t_X8_isSortAndTide : ∀ q ∈ T_X8_isSortAndTide, zS k_X8_isSortAndTide q.1 q.2 := by
  unfold T_X8_isSortAndTide
  refine List.forall_mem_cons.mpr ⟨s_iload_n (j := 1) (by decide +kernel) rfl rfl, ?_⟩
  refine List.forall_mem_cons.mpr ⟨s_if_lt (off := 31) (by decide +kernel) (by decide) rfl, ?_⟩
  refine List.forall_mem_cons.mpr ⟨s_iload_n (j := 1) (by decide +kernel) rfl rfl, ?_⟩
  refine List.forall_mem_cons.mpr ⟨s_bipush (by decide +kernel) (by decide) rfl, ?_⟩
  refine List.forall_mem_cons.mpr ⟨s_idiv (by decide +kernel) rfl, ?_⟩
  refine List.forall_mem_cons.mpr ⟨s_calls (idx := 151) (k' := k_X8_isSort) q2_223 q2_221 q2_222 q1_1 de_X8_isSort (by decide) (by decide +kernel) rfl, ?_⟩
  refine List.forall_mem_cons.mpr ⟨s_if_eq (off := 21) (by decide +kernel) (by decide) rfl, ?_⟩
  refine List.forall_mem_cons.mpr ⟨s_iload_n (j := 1) (by decide +kernel) rfl rfl, ?_⟩
  refine List.forall_mem_cons.mpr ⟨s_bipush (by decide +kernel) (by decide) rfl, ?_⟩
  refine List.forall_mem_cons.mpr ⟨s_irem (by decide +kernel) rfl, ?_⟩
  refine List.forall_mem_cons.mpr ⟨s_aload_n (j := 0) (by decide +kernel) rfl rfl, ?_⟩
  refine List.forall_mem_cons.mpr ⟨s_getf (idx := 19) (C := RX8) (T := TX8) (N := 10) rfl inX8 (by decide) q2_70 (by decide +kernel) rfl, ?_⟩
  refine List.forall_mem_cons.mpr ⟨s_getf (idx := 81) (C := RX2) (T := TX2) (N := 20) rfl inX2 (by decide) q1_59 (by decide +kernel) rfl, ?_⟩
  refine List.forall_mem_cons.mpr ⟨s_icmp_ge (off := 7) (by decide +kernel) (by decide) rfl, ?_⟩
  refine List.forall_mem_cons.mpr ⟨s_iconst (by decide +kernel) rfl, ?_⟩
  refine List.forall_mem_cons.mpr ⟨s_goto (off := 4) (by decide +kernel) (by decide), ?_⟩
  refine List.forall_mem_cons.mpr ⟨s_iconst (by decide +kernel) rfl, ?_⟩
  refine List.forall_mem_cons.mpr ⟨s_zret rfl (by decide +kernel), ?_⟩
  exact fun q hq => absurd hq List.not_mem_nil
def T_X8_isWinds : List (Nat × zO) := [(0, o_iload 1 1), (1, o_const 2 1), (2, o_aload 3 0), (3, o_getf 6 8 1), (6, o_callv 0 2 k_X2_allWinds 9), (9, o_calls 3 k_X8_within 12), (12, o_zret)]
set_option maxRecDepth 20000 in
theorem t_X8_isWinds : ∀ q ∈ T_X8_isWinds, zS k_X8_isWinds q.1 q.2 := by
  unfold T_X8_isWinds
  refine List.forall_mem_cons.mpr ⟨s_iload_n (j := 1) (by decide +kernel) rfl rfl, ?_⟩
  refine List.forall_mem_cons.mpr ⟨s_iconst (by decide +kernel) rfl, ?_⟩
  refine List.forall_mem_cons.mpr ⟨s_aload_n (j := 0) (by decide +kernel) rfl rfl, ?_⟩
  refine List.forall_mem_cons.mpr ⟨s_getf (idx := 19) (C := RX8) (T := TX8) (N := 10) rfl inX8 (by decide) q2_70 (by decide +kernel) rfl, ?_⟩
  refine List.forall_mem_cons.mpr ⟨s_callv (idx := 197) (k' := k_X2_allWinds) (T := TX2) (N := 20) rfl q3_11 q3_8 q3_9 q3_10 q1_3 de_X2_allWinds (by decide) (by decide +kernel) rfl, ?_⟩
  refine List.forall_mem_cons.mpr ⟨s_calls (idx := 101) (k' := k_X8_within) q2_145 q2_143 q2_144 q1_1 de_X8_within (by decide) (by decide +kernel) rfl, ?_⟩
  refine List.forall_mem_cons.mpr ⟨s_zret rfl (by decide +kernel), ?_⟩
  exact fun q hq => absurd hq List.not_mem_nil
def T_X8_isMove : List (Nat × zO) := [(0, o_aload 1 0), (1, o_iload 2 1), (2, o_callv 1 8 k_X8_isWay 5), (5, o_if_ne 20 8), (8, o_iload 9 1), (9, o_const 11 101), (11, o_const 14 340), (14, o_calls 3 k_X8_within 17), (17, o_if_eq 24 20), (20, o_const 21 1), (21, o_goto 25), (24, o_const 25 0), (25, o_zret)]
set_option maxRecDepth 20000 in
theorem t_X8_isMove : ∀ q ∈ T_X8_isMove, zS k_X8_isMove q.1 q.2 := by
  unfold T_X8_isMove
  refine List.forall_mem_cons.mpr ⟨s_aload_n (j := 0) (by decide +kernel) rfl rfl, ?_⟩
  refine List.forall_mem_cons.mpr ⟨s_iload_n (j := 1) (by decide +kernel) rfl rfl, ?_⟩
  refine List.forall_mem_cons.mpr ⟨s_callv (idx := 142) (k' := k_X8_isWay) (T := TX8) (N := 10) rfl q2_216 q2_213 q2_215 qs_7 q1_1 de_X8_isWay (by decide) (by decide +kernel) rfl, ?_⟩
  refine List.forall_mem_cons.mpr ⟨s_if_ne (off := 15) (by decide +kernel) (by decide) rfl, ?_⟩
  refine List.forall_mem_cons.mpr ⟨s_iload_n (j := 1) (by decide +kernel) rfl rfl, ?_⟩
  refine List.forall_mem_cons.mpr ⟨s_bipush (by decide +kernel) (by decide) rfl, ?_⟩
  refine List.forall_mem_cons.mpr ⟨s_sipush (by decide +kernel) (by decide) rfl, ?_⟩
  refine List.forall_mem_cons.mpr ⟨s_calls (idx := 101) (k' := k_X8_within) q2_145 q2_143 q2_144 q1_1 de_X8_within (by decide) (by decide +kernel) rfl, ?_⟩
  refine List.forall_mem_cons.mpr ⟨s_if_eq (off := 7) (by decide +kernel) (by decide) rfl, ?_⟩
  refine List.forall_mem_cons.mpr ⟨s_iconst (by decide +kernel) rfl, ?_⟩
  refine List.forall_mem_cons.mpr ⟨s_goto (off := 4) (by decide +kernel) (by decide), ?_⟩
  refine List.forall_mem_cons.mpr ⟨s_iconst (by decide +kernel) rfl, ?_⟩
  refine List.forall_mem_cons.mpr ⟨s_zret rfl (by decide +kernel), ?_⟩
  exact fun q hq => absurd hq List.not_mem_nil
def T_X8_refusalOfElement : List (Nat × zO) := [(0, o_iload 1 1), (1, o_calls 1 k_X8_isShelf 4), (4, o_if_ne 9 7), (7, o_const 8 (-1)), (8, o_iret), (9, o_aload 10 0), (10, o_getf 13 8 7), (13, o_iload 14 1), (14, o_aald 15), (15, o_astore 16 3), (16, o_aload 17 3), (17, o_getf 20 6 0), (20, o_const 21 (-1)), (21, o_icmp_ne 27 24), (24, o_const 26 (-11)), (26, o_iret), (27, o_aload 28 3), (28, o_getf 31 6 0), (31, o_const 32 5), (32, o_icmp_ne 38 35), (35, o_const 37 (-12)), (37, o_iret), (38, o_aload 39 3), (39, o_iload 40 2), (40, o_callv 1 6 k_X6_has 43), (43, o_if_eq 50 46), (46, o_const 47 0), (47, o_goto 52), (50, o_const 52 (-13)), (52, o_iret)]
set_option maxRecDepth 20000 in
theorem t_X8_refusalOfElement : ∀ q ∈ T_X8_refusalOfElement, zS k_X8_refusalOfElement q.1 q.2 := by
  unfold T_X8_refusalOfElement
  refine List.forall_mem_cons.mpr ⟨s_iload_n (j := 1) (by decide +kernel) rfl rfl, ?_⟩
  refine List.forall_mem_cons.mpr ⟨s_calls (idx := 221) (k' := k_X8_isShelf) q3_166 q3_164 q3_165 q1_1 de_X8_isShelf (by decide) (by decide +kernel) rfl, ?_⟩
  refine List.forall_mem_cons.mpr ⟨s_if_ne (off := 5) (by decide +kernel) (by decide) rfl, ?_⟩
  refine List.forall_mem_cons.mpr ⟨s_iconst (by decide +kernel) rfl, ?_⟩
  refine List.forall_mem_cons.mpr ⟨s_iret rfl (by decide +kernel), ?_⟩
  refine List.forall_mem_cons.mpr ⟨s_aload_n (j := 0) (by decide +kernel) rfl rfl, ?_⟩
  refine List.forall_mem_cons.mpr ⟨s_getf (idx := 64) (C := RX8) (T := TX8) (N := 10) rfl inX8 (by decide) q2_76 (by decide +kernel) rfl, ?_⟩
  refine List.forall_mem_cons.mpr ⟨s_iload_n (j := 1) (by decide +kernel) rfl rfl, ?_⟩
  refine List.forall_mem_cons.mpr ⟨s_aald (by decide +kernel) rfl, ?_⟩
  refine List.forall_mem_cons.mpr ⟨s_astore_n (j := 3) (by decide +kernel) rfl (by decide) rfl, ?_⟩
  refine List.forall_mem_cons.mpr ⟨s_aload_n (j := 3) (by decide +kernel) rfl rfl, ?_⟩
  refine List.forall_mem_cons.mpr ⟨s_getf (idx := 224) (C := RX6) (T := TX6) (N := 4) rfl inX6 (by decide) q2_54 (by decide +kernel) rfl, ?_⟩
  refine List.forall_mem_cons.mpr ⟨s_iconst (by decide +kernel) rfl, ?_⟩
  refine List.forall_mem_cons.mpr ⟨s_icmp_ne (off := 6) (by decide +kernel) (by decide) rfl, ?_⟩
  refine List.forall_mem_cons.mpr ⟨s_bipush (by decide +kernel) (by decide) rfl, ?_⟩
  refine List.forall_mem_cons.mpr ⟨s_iret rfl (by decide +kernel), ?_⟩
  refine List.forall_mem_cons.mpr ⟨s_aload_n (j := 3) (by decide +kernel) rfl rfl, ?_⟩
  refine List.forall_mem_cons.mpr ⟨s_getf (idx := 224) (C := RX6) (T := TX6) (N := 4) rfl inX6 (by decide) q2_54 (by decide +kernel) rfl, ?_⟩
  refine List.forall_mem_cons.mpr ⟨s_iconst (by decide +kernel) rfl, ?_⟩
  refine List.forall_mem_cons.mpr ⟨s_icmp_ne (off := 6) (by decide +kernel) (by decide) rfl, ?_⟩
  refine List.forall_mem_cons.mpr ⟨s_bipush (by decide +kernel) (by decide) rfl, ?_⟩
  refine List.forall_mem_cons.mpr ⟨s_iret rfl (by decide +kernel), ?_⟩
  refine List.forall_mem_cons.mpr ⟨s_aload_n (j := 3) (by decide +kernel) rfl rfl, ?_⟩
  refine List.forall_mem_cons.mpr ⟨s_iload_n (j := 2) (by decide +kernel) rfl rfl, ?_⟩
  refine List.forall_mem_cons.mpr ⟨s_callv (idx := 227) (k' := k_X6_has) (T := TX6) (N := 4) rfl q3_170 q3_167 q3_168 q3_169 q1_9 de_X6_has (by decide) (by decide +kernel) rfl, ?_⟩
  refine List.forall_mem_cons.mpr ⟨s_if_eq (off := 7) (by decide +kernel) (by decide) rfl, ?_⟩
  refine List.forall_mem_cons.mpr ⟨s_iconst (by decide +kernel) rfl, ?_⟩
  refine List.forall_mem_cons.mpr ⟨s_goto (off := 5) (by decide +kernel) (by decide), ?_⟩
  refine List.forall_mem_cons.mpr ⟨s_bipush (by decide +kernel) (by decide) rfl, ?_⟩
  refine List.forall_mem_cons.mpr ⟨s_iret rfl (by decide +kernel), ?_⟩
  exact fun q hq => absurd hq List.not_mem_nil
def T_X8_soonOrDay : List (Nat × zO) := [(0, o_aload 1 0), (1, o_getf 4 8 3), (4, o_iload 5 1), (5, o_iload 6 2), (6, o_const 9 1439), (9, o_callv 3 5 k_X5_soonest 12), (12, o_istore 13 3), (13, o_iload 14 3), (14, o_const 16 (-2)), (16, o_icmp_ne 25 19), (19, o_const 22 1440), (22, o_goto 26), (25, o_iload 26 3), (26, o_iret)]
set_option maxRecDepth 20000 in
theorem t_X8_soonOrDay : ∀ q ∈ T_X8_soonOrDay, zS k_X8_soonOrDay q.1 q.2 := by
  unfold T_X8_soonOrDay
  refine List.forall_mem_cons.mpr ⟨s_aload_n (j := 0) (by decide +kernel) rfl rfl, ?_⟩
  refine List.forall_mem_cons.mpr ⟨s_getf (idx := 37) (C := RX8) (T := TX8) (N := 10) rfl inX8 (by decide) q2_72 (by decide +kernel) rfl, ?_⟩
  refine List.forall_mem_cons.mpr ⟨s_iload_n (j := 1) (by decide +kernel) rfl rfl, ?_⟩
  refine List.forall_mem_cons.mpr ⟨s_iload_n (j := 2) (by decide +kernel) rfl rfl, ?_⟩
  refine List.forall_mem_cons.mpr ⟨s_sipush (by decide +kernel) (by decide) rfl, ?_⟩
  refine List.forall_mem_cons.mpr ⟨s_callv (idx := 183) (k' := k_X5_soonest) (T := TX5) (N := 7) rfl q3_53 q3_50 q3_51 q3_52 q1_5 de_X5_soonest (by decide) (by decide +kernel) rfl, ?_⟩
  refine List.forall_mem_cons.mpr ⟨s_istore_n (j := 3) (by decide +kernel) rfl (by decide) rfl, ?_⟩
  refine List.forall_mem_cons.mpr ⟨s_iload_n (j := 3) (by decide +kernel) rfl rfl, ?_⟩
  refine List.forall_mem_cons.mpr ⟨s_bipush (by decide +kernel) (by decide) rfl, ?_⟩
  refine List.forall_mem_cons.mpr ⟨s_icmp_ne (off := 9) (by decide +kernel) (by decide) rfl, ?_⟩
  refine List.forall_mem_cons.mpr ⟨s_sipush (by decide +kernel) (by decide) rfl, ?_⟩
  refine List.forall_mem_cons.mpr ⟨s_goto (off := 4) (by decide +kernel) (by decide), ?_⟩
  refine List.forall_mem_cons.mpr ⟨s_iload_n (j := 3) (by decide +kernel) rfl rfl, ?_⟩
  refine List.forall_mem_cons.mpr ⟨s_iret rfl (by decide +kernel), ?_⟩
  exact fun q hq => absurd hq List.not_mem_nil
def T_X8_soonLifted : List (Nat × zO) := [(0, o_aload 1 0), (1, o_getf 4 8 1), (4, o_getf 7 2 14), (7, o_iload 8 1), (8, o_iald 9), (9, o_istore 11 5), (11, o_aload 12 0), (12, o_getf 15 8 1), (15, o_getf 18 2 14), (18, o_iload 19 1), (19, o_iload 21 5), (21, o_iload 23 4), (23, o_iadd 24), (24, o_iast 25), (25, o_aload 26 0), (26, o_iload 27 2), (27, o_iload 28 3), (28, o_callv 2 8 k_X8_soonOrDay 31), (31, o_istore 33 6), (33, o_aload 34 0), (34, o_getf 37 8 1), (37, o_getf 40 2 14), (40, o_iload 41 1), (41, o_iload 43 5), (43, o_iast 44), (44, o_iload 46 6), (46, o_iret)]
set_option maxRecDepth 20000 in
theorem t_X8_soonLifted : ∀ q ∈ T_X8_soonLifted, zS k_X8_soonLifted q.1 q.2 := by
  unfold T_X8_soonLifted
  refine List.forall_mem_cons.mpr ⟨s_aload_n (j := 0) (by decide +kernel) rfl rfl, ?_⟩
  refine List.forall_mem_cons.mpr ⟨s_getf (idx := 19) (C := RX8) (T := TX8) (N := 10) rfl inX8 (by decide) q2_70 (by decide +kernel) rfl, ?_⟩
  refine List.forall_mem_cons.mpr ⟨s_getf (idx := 317) (C := RX2) (T := TX2) (N := 20) rfl inX2 (by decide) q1_91 (by decide +kernel) rfl, ?_⟩
  refine List.forall_mem_cons.mpr ⟨s_iload_n (j := 1) (by decide +kernel) rfl rfl, ?_⟩
  refine List.forall_mem_cons.mpr ⟨s_iald (by decide +kernel) rfl, ?_⟩
  refine List.forall_mem_cons.mpr ⟨s_istore (by decide +kernel) (by decide) rfl, ?_⟩
  refine List.forall_mem_cons.mpr ⟨s_aload_n (j := 0) (by decide +kernel) rfl rfl, ?_⟩
  refine List.forall_mem_cons.mpr ⟨s_getf (idx := 19) (C := RX8) (T := TX8) (N := 10) rfl inX8 (by decide) q2_70 (by decide +kernel) rfl, ?_⟩
  refine List.forall_mem_cons.mpr ⟨s_getf (idx := 317) (C := RX2) (T := TX2) (N := 20) rfl inX2 (by decide) q1_91 (by decide +kernel) rfl, ?_⟩
  refine List.forall_mem_cons.mpr ⟨s_iload_n (j := 1) (by decide +kernel) rfl rfl, ?_⟩
  refine List.forall_mem_cons.mpr ⟨s_iload (by decide +kernel) rfl, ?_⟩
  refine List.forall_mem_cons.mpr ⟨s_iload (by decide +kernel) rfl, ?_⟩
  refine List.forall_mem_cons.mpr ⟨s_iadd (by decide +kernel) rfl, ?_⟩
  refine List.forall_mem_cons.mpr ⟨s_iast (by decide +kernel) rfl, ?_⟩
  refine List.forall_mem_cons.mpr ⟨s_aload_n (j := 0) (by decide +kernel) rfl rfl, ?_⟩
  refine List.forall_mem_cons.mpr ⟨s_iload_n (j := 2) (by decide +kernel) rfl rfl, ?_⟩
  refine List.forall_mem_cons.mpr ⟨s_iload_n (j := 3) (by decide +kernel) rfl rfl, ?_⟩
  refine List.forall_mem_cons.mpr ⟨s_callv (idx := 203) (k' := k_X8_soonOrDay) (T := TX8) (N := 10) rfl q3_131 q3_128 q3_130 qs_19 q1_1 de_X8_soonOrDay (by decide) (by decide +kernel) rfl, ?_⟩
  refine List.forall_mem_cons.mpr ⟨s_istore (by decide +kernel) (by decide) rfl, ?_⟩
  refine List.forall_mem_cons.mpr ⟨s_aload_n (j := 0) (by decide +kernel) rfl rfl, ?_⟩
  refine List.forall_mem_cons.mpr ⟨s_getf (idx := 19) (C := RX8) (T := TX8) (N := 10) rfl inX8 (by decide) q2_70 (by decide +kernel) rfl, ?_⟩
  refine List.forall_mem_cons.mpr ⟨s_getf (idx := 317) (C := RX2) (T := TX2) (N := 20) rfl inX2 (by decide) q1_91 (by decide +kernel) rfl, ?_⟩
  refine List.forall_mem_cons.mpr ⟨s_iload_n (j := 1) (by decide +kernel) rfl rfl, ?_⟩
  refine List.forall_mem_cons.mpr ⟨s_iload (by decide +kernel) rfl, ?_⟩
  refine List.forall_mem_cons.mpr ⟨s_iast (by decide +kernel) rfl, ?_⟩
  refine List.forall_mem_cons.mpr ⟨s_iload (by decide +kernel) rfl, ?_⟩
  refine List.forall_mem_cons.mpr ⟨s_iret rfl (by decide +kernel), ?_⟩
  exact fun q hq => absurd hq List.not_mem_nil
def T_X8_reachedByDark : List (Nat × zO) := [(0, o_aload 1 0), (1, o_getf 4 8 3), (4, o_iload 5 3), (5, o_iload 7 4), (7, o_callv 2 5 k_X5_prepare 10), (10, o_aload 11 0), (11, o_getf 14 8 3), (14, o_iload 15 1), (15, o_iload 16 2), (16, o_aload 17 0), (17, o_getf 20 8 1), (20, o_getf 23 2 19), (23, o_callv 3 5 k_X5_soonest 26), (26, o_const 28 (-2)), (28, o_icmp_eq 35 31), (31, o_const 32 1), (32, o_goto 36), (35, o_const 36 0), (36, o_zret)]
set_option maxRecDepth 20000 in
theorem t_X8_reachedByDark : ∀ q ∈ T_X8_reachedByDark, zS k_X8_reachedByDark q.1 q.2 := by
  unfold T_X8_reachedByDark
  refine List.forall_mem_cons.mpr ⟨s_aload_n (j := 0) (by decide +kernel) rfl rfl, ?_⟩
  refine List.forall_mem_cons.mpr ⟨s_getf (idx := 37) (C := RX8) (T := TX8) (N := 10) rfl inX8 (by decide) q2_72 (by decide +kernel) rfl, ?_⟩
  refine List.forall_mem_cons.mpr ⟨s_iload_n (j := 3) (by decide +kernel) rfl rfl, ?_⟩
  refine List.forall_mem_cons.mpr ⟨s_iload (by decide +kernel) rfl, ?_⟩
  refine List.forall_mem_cons.mpr ⟨s_callv (idx := 180) (k' := k_X5_prepare) (T := TX5) (N := 7) rfl q3_46 q3_43 q3_44 q3_45 q1_5 de_X5_prepare (by decide) (by decide +kernel) rfl, ?_⟩
  refine List.forall_mem_cons.mpr ⟨s_aload_n (j := 0) (by decide +kernel) rfl rfl, ?_⟩
  refine List.forall_mem_cons.mpr ⟨s_getf (idx := 37) (C := RX8) (T := TX8) (N := 10) rfl inX8 (by decide) q2_72 (by decide +kernel) rfl, ?_⟩
  refine List.forall_mem_cons.mpr ⟨s_iload_n (j := 1) (by decide +kernel) rfl rfl, ?_⟩
  refine List.forall_mem_cons.mpr ⟨s_iload_n (j := 2) (by decide +kernel) rfl rfl, ?_⟩
  refine List.forall_mem_cons.mpr ⟨s_aload_n (j := 0) (by decide +kernel) rfl rfl, ?_⟩
  refine List.forall_mem_cons.mpr ⟨s_getf (idx := 19) (C := RX8) (T := TX8) (N := 10) rfl inX8 (by decide) q2_70 (by decide +kernel) rfl, ?_⟩
  refine List.forall_mem_cons.mpr ⟨s_getf (idx := 154) (C := RX2) (T := TX2) (N := 20) rfl inX2 (by decide) q1_105 (by decide +kernel) rfl, ?_⟩
  refine List.forall_mem_cons.mpr ⟨s_callv (idx := 183) (k' := k_X5_soonest) (T := TX5) (N := 7) rfl q3_53 q3_50 q3_51 q3_52 q1_5 de_X5_soonest (by decide) (by decide +kernel) rfl, ?_⟩
  refine List.forall_mem_cons.mpr ⟨s_bipush (by decide +kernel) (by decide) rfl, ?_⟩
  refine List.forall_mem_cons.mpr ⟨s_icmp_eq (off := 7) (by decide +kernel) (by decide) rfl, ?_⟩
  refine List.forall_mem_cons.mpr ⟨s_iconst (by decide +kernel) rfl, ?_⟩
  refine List.forall_mem_cons.mpr ⟨s_goto (off := 4) (by decide +kernel) (by decide), ?_⟩
  refine List.forall_mem_cons.mpr ⟨s_iconst (by decide +kernel) rfl, ?_⟩
  refine List.forall_mem_cons.mpr ⟨s_zret rfl (by decide +kernel), ?_⟩
  exact fun q hq => absurd hq List.not_mem_nil
def T_X8_bestSet : List (Nat × zO) := [(0, o_const 1 0), (1, o_istore 3 4), (3, o_const 4 0), (4, o_istore 6 5), (6, o_iload 8 5), (8, o_aload 9 0), (9, o_getf 12 8 1), (12, o_getf 15 2 4), (15, o_icmp_ge 47 18), (18, o_aload 19 0), (19, o_iload 20 1), (20, o_iload 21 2), (21, o_iload 22 3), (22, o_const 23 1), (23, o_iload 25 5), (25, o_ishl 26), (26, o_callv 4 8 k_X8_reachedByDark 29), (29, o_if_eq 41 32), (32, o_iload 34 4), (34, o_const 35 1), (35, o_iload 37 5), (37, o_ishl 38), (38, o_ior 39), (39, o_istore 41 4), (41, o_iinc 44 5 1), (44, o_goto 6), (47, o_const 48 0), (48, o_istore 50 5), (50, o_const 51 0), (51, o_istore 53 6), (53, o_iload 55 6), (55, o_const 57 32), (57, o_icmp_ge 105 60), (60, o_aload 61 0), (61, o_iload 63 4), (63, o_iload 65 5), (65, o_callv 2 8 k_X8_likeliestUntried 68), (68, o_istore 70 7), (70, o_iload 72 7), (72, o_if_eq 87 75), (75, o_aload 76 0), (76, o_iload 77 1), (77, o_iload 78 2), (78, o_iload 79 3), (79, o_iload 81 7), (81, o_callv 4 8 k_X8_reachedByDark 84), (84, o_if_eq 90 87), (87, o_iload 89 7), (89, o_iret), (90, o_iload 92 5), (92, o_const 93 1), (93, o_iload 95 7), (95, o_ishl 96), (96, o_ior 97), (97, o_istore 99 5), (99, o_iinc 102 6 1), (102, o_goto 53), (105, o_const 106 0), (106, o_iret)]
set_option maxRecDepth 20000 in
theorem t_X8_bestSet : ∀ q ∈ T_X8_bestSet, zS k_X8_bestSet q.1 q.2 := by
  unfold T_X8_bestSet
  refine List.forall_mem_cons.mpr ⟨s_iconst (by decide +kernel) rfl, ?_⟩
  refine List.forall_mem_cons.mpr ⟨s_istore (by decide +kernel) (by decide) rfl, ?_⟩
  refine List.forall_mem_cons.mpr ⟨s_iconst (by decide +kernel) rfl, ?_⟩
  refine List.forall_mem_cons.mpr ⟨s_istore (by decide +kernel) (by decide) rfl, ?_⟩
  refine List.forall_mem_cons.mpr ⟨s_iload (by decide +kernel) rfl, ?_⟩
  refine List.forall_mem_cons.mpr ⟨s_aload_n (j := 0) (by decide +kernel) rfl rfl, ?_⟩
  refine List.forall_mem_cons.mpr ⟨s_getf (idx := 19) (C := RX8) (T := TX8) (N := 10) rfl inX8 (by decide) q2_70 (by decide +kernel) rfl, ?_⟩
  refine List.forall_mem_cons.mpr ⟨s_getf (idx := 105) (C := RX2) (T := TX2) (N := 20) rfl inX2 (by decide) q1_65 (by decide +kernel) rfl, ?_⟩
  refine List.forall_mem_cons.mpr ⟨s_icmp_ge (off := 32) (by decide +kernel) (by decide) rfl, ?_⟩
  refine List.forall_mem_cons.mpr ⟨s_aload_n (j := 0) (by decide +kernel) rfl rfl, ?_⟩
  refine List.forall_mem_cons.mpr ⟨s_iload_n (j := 1) (by decide +kernel) rfl rfl, ?_⟩
  refine List.forall_mem_cons.mpr ⟨s_iload_n (j := 2) (by decide +kernel) rfl rfl, ?_⟩
  refine List.forall_mem_cons.mpr ⟨s_iload_n (j := 3) (by decide +kernel) rfl rfl, ?_⟩
  refine List.forall_mem_cons.mpr ⟨s_iconst (by decide +kernel) rfl, ?_⟩
  refine List.forall_mem_cons.mpr ⟨s_iload (by decide +kernel) rfl, ?_⟩
  refine List.forall_mem_cons.mpr ⟨s_ishl (by decide +kernel) rfl, ?_⟩
  refine List.forall_mem_cons.mpr ⟨s_callv (idx := 318) (k' := k_X8_reachedByDark) (T := TX8) (N := 10) rfl q3_97 q3_94 q3_96 qs_17 q1_1 de_X8_reachedByDark (by decide) (by decide +kernel) rfl, ?_⟩
  refine List.forall_mem_cons.mpr ⟨s_if_eq (off := 12) (by decide +kernel) (by decide) rfl, ?_⟩
  refine List.forall_mem_cons.mpr ⟨s_iload (by decide +kernel) rfl, ?_⟩
  refine List.forall_mem_cons.mpr ⟨s_iconst (by decide +kernel) rfl, ?_⟩
  refine List.forall_mem_cons.mpr ⟨s_iload (by decide +kernel) rfl, ?_⟩
  refine List.forall_mem_cons.mpr ⟨s_ishl (by decide +kernel) rfl, ?_⟩
  refine List.forall_mem_cons.mpr ⟨s_ior (by decide +kernel) rfl, ?_⟩
  refine List.forall_mem_cons.mpr ⟨s_istore (by decide +kernel) (by decide) rfl, ?_⟩
  refine List.forall_mem_cons.mpr ⟨s_iinc (by decide +kernel) (by decide) rfl, ?_⟩
  refine List.forall_mem_cons.mpr ⟨s_goto (off := (-38)) (by decide +kernel) (by decide), ?_⟩
  refine List.forall_mem_cons.mpr ⟨s_iconst (by decide +kernel) rfl, ?_⟩
  refine List.forall_mem_cons.mpr ⟨s_istore (by decide +kernel) (by decide) rfl, ?_⟩
  refine List.forall_mem_cons.mpr ⟨s_iconst (by decide +kernel) rfl, ?_⟩
  refine List.forall_mem_cons.mpr ⟨s_istore (by decide +kernel) (by decide) rfl, ?_⟩
  refine List.forall_mem_cons.mpr ⟨s_iload (by decide +kernel) rfl, ?_⟩
  refine List.forall_mem_cons.mpr ⟨s_bipush (by decide +kernel) (by decide) rfl, ?_⟩
  refine List.forall_mem_cons.mpr ⟨s_icmp_ge (off := 48) (by decide +kernel) (by decide) rfl, ?_⟩
  refine List.forall_mem_cons.mpr ⟨s_aload_n (j := 0) (by decide +kernel) rfl rfl, ?_⟩
  refine List.forall_mem_cons.mpr ⟨s_iload (by decide +kernel) rfl, ?_⟩
  refine List.forall_mem_cons.mpr ⟨s_iload (by decide +kernel) rfl, ?_⟩
  refine List.forall_mem_cons.mpr ⟨s_callv (idx := 321) (k' := k_X8_likeliestUntried) (T := TX8) (N := 10) rfl q3_101 q3_98 q3_100 qs_18 q1_1 de_X8_likeliestUntried (by decide) (by decide +kernel) rfl, ?_⟩
  refine List.forall_mem_cons.mpr ⟨s_istore (by decide +kernel) (by decide) rfl, ?_⟩
  refine List.forall_mem_cons.mpr ⟨s_iload (by decide +kernel) rfl, ?_⟩
  refine List.forall_mem_cons.mpr ⟨s_if_eq (off := 15) (by decide +kernel) (by decide) rfl, ?_⟩
  refine List.forall_mem_cons.mpr ⟨s_aload_n (j := 0) (by decide +kernel) rfl rfl, ?_⟩
  refine List.forall_mem_cons.mpr ⟨s_iload_n (j := 1) (by decide +kernel) rfl rfl, ?_⟩
  refine List.forall_mem_cons.mpr ⟨s_iload_n (j := 2) (by decide +kernel) rfl rfl, ?_⟩
  refine List.forall_mem_cons.mpr ⟨s_iload_n (j := 3) (by decide +kernel) rfl rfl, ?_⟩
  refine List.forall_mem_cons.mpr ⟨s_iload (by decide +kernel) rfl, ?_⟩
  refine List.forall_mem_cons.mpr ⟨s_callv (idx := 318) (k' := k_X8_reachedByDark) (T := TX8) (N := 10) rfl q3_97 q3_94 q3_96 qs_17 q1_1 de_X8_reachedByDark (by decide) (by decide +kernel) rfl, ?_⟩
  refine List.forall_mem_cons.mpr ⟨s_if_eq (off := 6) (by decide +kernel) (by decide) rfl, ?_⟩
  refine List.forall_mem_cons.mpr ⟨s_iload (by decide +kernel) rfl, ?_⟩
  refine List.forall_mem_cons.mpr ⟨s_iret rfl (by decide +kernel), ?_⟩
  refine List.forall_mem_cons.mpr ⟨s_iload (by decide +kernel) rfl, ?_⟩
  refine List.forall_mem_cons.mpr ⟨s_iconst (by decide +kernel) rfl, ?_⟩
  refine List.forall_mem_cons.mpr ⟨s_iload (by decide +kernel) rfl, ?_⟩
  refine List.forall_mem_cons.mpr ⟨s_ishl (by decide +kernel) rfl, ?_⟩
  refine List.forall_mem_cons.mpr ⟨s_ior (by decide +kernel) rfl, ?_⟩
  refine List.forall_mem_cons.mpr ⟨s_istore (by decide +kernel) (by decide) rfl, ?_⟩
  refine List.forall_mem_cons.mpr ⟨s_iinc (by decide +kernel) (by decide) rfl, ?_⟩
  refine List.forall_mem_cons.mpr ⟨s_goto (off := (-49)) (by decide +kernel) (by decide), ?_⟩
  refine List.forall_mem_cons.mpr ⟨s_iconst (by decide +kernel) rfl, ?_⟩
  refine List.forall_mem_cons.mpr ⟨s_iret rfl (by decide +kernel), ?_⟩
  exact fun q hq => absurd hq List.not_mem_nil
def T_X8_likeliestUntried : List (Nat × zO) := [(0, o_const 1 0), (1, o_istore 2 3), (2, o_const 3 1), (3, o_istore 5 4), (5, o_iload 7 4), (7, o_iload 8 1), (8, o_icmp_gt 70 11), (11, o_iload 13 4), (13, o_iload 14 1), (14, o_const 15 (-1)), (15, o_ixor 16), (16, o_iand 17), (17, o_if_ne 33 20), (20, o_iload 21 2), (21, o_iload 23 4), (23, o_iushr 24), (24, o_const 25 1), (25, o_iand 26), (26, o_if_ne 33 29), (29, o_const 30 1), (30, o_goto 34), (33, o_const 34 0), (34, o_istore 36 5), (36, o_iload 38 5), (38, o_if_eq 64 41), (41, o_aload 42 0), (42, o_getf 45 8 1), (45, o_iload 47 4), (47, o_callv 1 2 k_X2_chanceOf 50), (50, o_aload 51 0), (51, o_getf 54 8 1), (54, o_iload 55 3), (55, o_callv 1 2 k_X2_chanceOf 58), (58, o_icmp_le 64 61), (61, o_iload 63 4), (63, o_istore 64 3), (64, o_iinc 67 4 1), (67, o_goto 5), (70, o_iload 71 3), (71, o_iret)]
set_option maxRecDepth 20000 in
theorem t_X8_likeliestUntried : ∀ q ∈ T_X8_likeliestUntried, zS k_X8_likeliestUntried q.1 q.2 := by
  unfold T_X8_likeliestUntried
  refine List.forall_mem_cons.mpr ⟨s_iconst (by decide +kernel) rfl, ?_⟩
  refine List.forall_mem_cons.mpr ⟨s_istore_n (j := 3) (by decide +kernel) rfl (by decide) rfl, ?_⟩
  refine List.forall_mem_cons.mpr ⟨s_iconst (by decide +kernel) rfl, ?_⟩
  refine List.forall_mem_cons.mpr ⟨s_istore (by decide +kernel) (by decide) rfl, ?_⟩
  refine List.forall_mem_cons.mpr ⟨s_iload (by decide +kernel) rfl, ?_⟩
  refine List.forall_mem_cons.mpr ⟨s_iload_n (j := 1) (by decide +kernel) rfl rfl, ?_⟩
  refine List.forall_mem_cons.mpr ⟨s_icmp_gt (off := 62) (by decide +kernel) (by decide) rfl, ?_⟩
  refine List.forall_mem_cons.mpr ⟨s_iload (by decide +kernel) rfl, ?_⟩
  refine List.forall_mem_cons.mpr ⟨s_iload_n (j := 1) (by decide +kernel) rfl rfl, ?_⟩
  refine List.forall_mem_cons.mpr ⟨s_iconst (by decide +kernel) rfl, ?_⟩
  refine List.forall_mem_cons.mpr ⟨s_ixor (by decide +kernel) rfl, ?_⟩
  refine List.forall_mem_cons.mpr ⟨s_iand (by decide +kernel) rfl, ?_⟩
  refine List.forall_mem_cons.mpr ⟨s_if_ne (off := 16) (by decide +kernel) (by decide) rfl, ?_⟩
  refine List.forall_mem_cons.mpr ⟨s_iload_n (j := 2) (by decide +kernel) rfl rfl, ?_⟩
  refine List.forall_mem_cons.mpr ⟨s_iload (by decide +kernel) rfl, ?_⟩
  refine List.forall_mem_cons.mpr ⟨s_iushr (by decide +kernel) rfl, ?_⟩
  refine List.forall_mem_cons.mpr ⟨s_iconst (by decide +kernel) rfl, ?_⟩
  refine List.forall_mem_cons.mpr ⟨s_iand (by decide +kernel) rfl, ?_⟩
  refine List.forall_mem_cons.mpr ⟨s_if_ne (off := 7) (by decide +kernel) (by decide) rfl, ?_⟩
  refine List.forall_mem_cons.mpr ⟨s_iconst (by decide +kernel) rfl, ?_⟩
  refine List.forall_mem_cons.mpr ⟨s_goto (off := 4) (by decide +kernel) (by decide), ?_⟩
  refine List.forall_mem_cons.mpr ⟨s_iconst (by decide +kernel) rfl, ?_⟩
  refine List.forall_mem_cons.mpr ⟨s_istore (by decide +kernel) (by decide) rfl, ?_⟩
  refine List.forall_mem_cons.mpr ⟨s_iload (by decide +kernel) rfl, ?_⟩
  refine List.forall_mem_cons.mpr ⟨s_if_eq (off := 26) (by decide +kernel) (by decide) rfl, ?_⟩
  refine List.forall_mem_cons.mpr ⟨s_aload_n (j := 0) (by decide +kernel) rfl rfl, ?_⟩
  refine List.forall_mem_cons.mpr ⟨s_getf (idx := 19) (C := RX8) (T := TX8) (N := 10) rfl inX8 (by decide) q2_70 (by decide +kernel) rfl, ?_⟩
  refine List.forall_mem_cons.mpr ⟨s_iload (by decide +kernel) rfl, ?_⟩
  refine List.forall_mem_cons.mpr ⟨s_callv (idx := 324) (k' := k_X2_chanceOf) (T := TX2) (N := 20) rfl q3_105 q3_102 q3_103 q3_104 q1_3 de_X2_chanceOf (by decide) (by decide +kernel) rfl, ?_⟩
  refine List.forall_mem_cons.mpr ⟨s_aload_n (j := 0) (by decide +kernel) rfl rfl, ?_⟩
  refine List.forall_mem_cons.mpr ⟨s_getf (idx := 19) (C := RX8) (T := TX8) (N := 10) rfl inX8 (by decide) q2_70 (by decide +kernel) rfl, ?_⟩
  refine List.forall_mem_cons.mpr ⟨s_iload_n (j := 3) (by decide +kernel) rfl rfl, ?_⟩
  refine List.forall_mem_cons.mpr ⟨s_callv (idx := 324) (k' := k_X2_chanceOf) (T := TX2) (N := 20) rfl q3_105 q3_102 q3_103 q3_104 q1_3 de_X2_chanceOf (by decide) (by decide +kernel) rfl, ?_⟩
  refine List.forall_mem_cons.mpr ⟨s_icmp_le (off := 6) (by decide +kernel) (by decide) rfl, ?_⟩
  refine List.forall_mem_cons.mpr ⟨s_iload (by decide +kernel) rfl, ?_⟩
  refine List.forall_mem_cons.mpr ⟨s_istore_n (j := 3) (by decide +kernel) rfl (by decide) rfl, ?_⟩
  refine List.forall_mem_cons.mpr ⟨s_iinc (by decide +kernel) (by decide) rfl, ?_⟩
  refine List.forall_mem_cons.mpr ⟨s_goto (off := (-62)) (by decide +kernel) (by decide), ?_⟩
  refine List.forall_mem_cons.mpr ⟨s_iload_n (j := 3) (by decide +kernel) rfl rfl, ?_⟩
  refine List.forall_mem_cons.mpr ⟨s_iret rfl (by decide +kernel), ?_⟩
  exact fun q hq => absurd hq List.not_mem_nil
def T_X8_marksCanHaveBeen : List (Nat × zO) := [(0, o_const 1 1), (1, o_istore 2 1), (2, o_iload 3 1), (3, o_aload 4 0), (4, o_getf 7 8 9), (7, o_icmp_ge 42 10), (10, o_aload 11 0), (11, o_getf 14 8 3), (14, o_aload 15 0), (15, o_getf 18 8 8), (18, o_iload 19 1), (19, o_const 20 1), (20, o_isub 21), (21, o_iald 22), (22, o_aload 23 0), (23, o_getf 26 8 8), (26, o_iload 27 1), (27, o_iald 28), (28, o_callv 2 5 k_X5_isThere 31), (31, o_if_ne 36 34), (34, o_const 35 0), (35, o_zret), (36, o_iinc 39 1 1), (39, o_goto 2), (42, o_const 43 1), (43, o_zret)]
set_option maxRecDepth 20000 in
theorem t_X8_marksCanHaveBeen : ∀ q ∈ T_X8_marksCanHaveBeen, zS k_X8_marksCanHaveBeen q.1 q.2 := by
  unfold T_X8_marksCanHaveBeen
  refine List.forall_mem_cons.mpr ⟨s_iconst (by decide +kernel) rfl, ?_⟩
  refine List.forall_mem_cons.mpr ⟨s_istore_n (j := 1) (by decide +kernel) rfl (by decide) rfl, ?_⟩
  refine List.forall_mem_cons.mpr ⟨s_iload_n (j := 1) (by decide +kernel) rfl rfl, ?_⟩
  refine List.forall_mem_cons.mpr ⟨s_aload_n (j := 0) (by decide +kernel) rfl rfl, ?_⟩
  refine List.forall_mem_cons.mpr ⟨s_getf (idx := 246) (C := RX8) (T := TX8) (N := 10) rfl inX8 (by decide) q2_78 (by decide +kernel) rfl, ?_⟩
  refine List.forall_mem_cons.mpr ⟨s_icmp_ge (off := 35) (by decide +kernel) (by decide) rfl, ?_⟩
  refine List.forall_mem_cons.mpr ⟨s_aload_n (j := 0) (by decide +kernel) rfl rfl, ?_⟩
  refine List.forall_mem_cons.mpr ⟨s_getf (idx := 37) (C := RX8) (T := TX8) (N := 10) rfl inX8 (by decide) q2_72 (by decide +kernel) rfl, ?_⟩
  refine List.forall_mem_cons.mpr ⟨s_aload_n (j := 0) (by decide +kernel) rfl rfl, ?_⟩
  refine List.forall_mem_cons.mpr ⟨s_getf (idx := 68) (C := RX8) (T := TX8) (N := 10) rfl inX8 (by decide) q2_77 (by decide +kernel) rfl, ?_⟩
  refine List.forall_mem_cons.mpr ⟨s_iload_n (j := 1) (by decide +kernel) rfl rfl, ?_⟩
  refine List.forall_mem_cons.mpr ⟨s_iconst (by decide +kernel) rfl, ?_⟩
  refine List.forall_mem_cons.mpr ⟨s_isub (by decide +kernel) rfl, ?_⟩
  refine List.forall_mem_cons.mpr ⟨s_iald (by decide +kernel) rfl, ?_⟩
  refine List.forall_mem_cons.mpr ⟨s_aload_n (j := 0) (by decide +kernel) rfl rfl, ?_⟩
  refine List.forall_mem_cons.mpr ⟨s_getf (idx := 68) (C := RX8) (T := TX8) (N := 10) rfl inX8 (by decide) q2_77 (by decide +kernel) rfl, ?_⟩
  refine List.forall_mem_cons.mpr ⟨s_iload_n (j := 1) (by decide +kernel) rfl rfl, ?_⟩
  refine List.forall_mem_cons.mpr ⟨s_iald (by decide +kernel) rfl, ?_⟩
  refine List.forall_mem_cons.mpr ⟨s_callv (idx := 327) (k' := k_X5_isThere) (T := TX5) (N := 7) rfl q3_225 q3_222 q3_223 q3_224 q1_5 de_X5_isThere (by decide) (by decide +kernel) rfl, ?_⟩
  refine List.forall_mem_cons.mpr ⟨s_if_ne (off := 5) (by decide +kernel) (by decide) rfl, ?_⟩
  refine List.forall_mem_cons.mpr ⟨s_iconst (by decide +kernel) rfl, ?_⟩
  refine List.forall_mem_cons.mpr ⟨s_zret rfl (by decide +kernel), ?_⟩
  refine List.forall_mem_cons.mpr ⟨s_iinc (by decide +kernel) (by decide) rfl, ?_⟩
  refine List.forall_mem_cons.mpr ⟨s_goto (off := (-37)) (by decide +kernel) (by decide), ?_⟩
  refine List.forall_mem_cons.mpr ⟨s_iconst (by decide +kernel) rfl, ?_⟩
  refine List.forall_mem_cons.mpr ⟨s_zret rfl (by decide +kernel), ?_⟩
  exact fun q hq => absurd hq List.not_mem_nil
