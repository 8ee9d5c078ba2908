def T_X0_add : List (Nat × zO) := [(0, o_aload 1 0), (1, o_getf 4 0 0), (4, o_aload 5 0), (5, o_getf 8 0 1), (8, o_iload 9 1), (9, o_iast 10), (10, o_aload 11 0), (11, o_dup 12), (12, o_getf 15 0 1), (15, o_const 16 1), (16, o_iadd 17), (17, o_putf 20 0 1), (20, o_aload 21 0), (21, o_getf 24 0 1), (24, o_const 25 1), (25, o_isub 26), (26, o_iret)]
set_option maxRecDepth 20000 in
theorem t_X0_add : ∀ q ∈ T_X0_add, zS k_X0_add q.1 q.2 := by
  unfold T_X0_add
  refine List.forall_mem_cons.mpr ⟨s_aload_n (j := 0) (by decide +kernel) rfl rfl, ?_⟩
  refine List.forall_mem_cons.mpr ⟨s_getf (idx := 9) (C := RX0) (T := TX0) (N := 5) rfl inX0 (by decide) q2_26 (by decide +kernel) rfl, ?_⟩
  refine List.forall_mem_cons.mpr ⟨s_aload_n (j := 0) (by decide +kernel) rfl rfl, ?_⟩
  refine List.forall_mem_cons.mpr ⟨s_getf (idx := 18) (C := RX0) (T := TX0) (N := 5) rfl inX0 (by decide) q2_28 (by decide +kernel) rfl, ?_⟩
  refine List.forall_mem_cons.mpr ⟨s_iload_n (j := 1) (by decide +kernel) rfl rfl, ?_⟩
  refine List.forall_mem_cons.mpr ⟨s_iast (by decide +kernel) rfl, ?_⟩
  refine List.forall_mem_cons.mpr ⟨s_aload_n (j := 0) (by decide +kernel) rfl rfl, ?_⟩
  refine List.forall_mem_cons.mpr ⟨s_dup (by decide +kernel) rfl, ?_⟩
  refine List.forall_mem_cons.mpr ⟨s_getf (idx := 18) (C := RX0) (T := TX0) (N := 5) rfl inX0 (by decide) q2_28 (by decide +kernel) rfl, ?_⟩
  refine List.forall_mem_cons.mpr ⟨s_iconst (by decide +kernel) rfl, ?_⟩
  refine List.forall_mem_cons.mpr ⟨s_iadd (by decide +kernel) rfl, ?_⟩
  refine List.forall_mem_cons.mpr ⟨s_putf (idx := 18) (C := RX0) (T := TX0) (N := 5) rfl inX0 tyX0_ok nmX0 (by decide) rfl (tyX0_ok 1 (by decide)) (Or.inl ⟨rfl, kdI 0 1 (by decide)⟩) q2_28 (by decide +kernel) rfl, ?_⟩
  refine List.forall_mem_cons.mpr ⟨s_aload_n (j := 0) (by decide +kernel) rfl rfl, ?_⟩
  refine List.forall_mem_cons.mpr ⟨s_getf (idx := 18) (C := RX0) (T := TX0) (N := 5) rfl inX0 (by decide) q2_28 (by decide +kernel) rfl, ?_⟩
  refine List.forall_mem_cons.mpr ⟨s_iconst (by decide +kernel) rfl, ?_⟩
  refine List.forall_mem_cons.mpr ⟨s_isub (by decide +kernel) rfl, ?_⟩
  refine List.forall_mem_cons.mpr ⟨s_iret rfl (by decide +kernel), ?_⟩
  exact fun q hq => absurd hq List.not_mem_nil
def T_X0_isOrUnder : List (Nat × zO) := [(0, o_iload 1 0), (1, o_istore 2 2), (2, o_const 3 0), (3, o_istore 4 3), (4, o_iload 5 3), (5, o_const 7 7), (7, o_icmp_ge 33 10), (10, o_iload 11 2), (11, o_if_lt 33 14), (14, o_iload 15 2), (15, o_iload 16 1), (16, o_icmp_ne 21 19), (19, o_const 20 1), (20, o_zret), (21, o_gets 24 90), (24, o_iload 25 2), (25, o_tald 26), (26, o_istore 27 2), (27, o_iinc 30 3 1), (30, o_goto 4), (33, o_const 34 0), (34, o_zret)]
set_option maxRecDepth 20000 in
theorem t_X0_isOrUnder : ∀ q ∈ T_X0_isOrUnder, zS k_X0_isOrUnder q.1 q.2 := by
  unfold T_X0_isOrUnder
  refine List.forall_mem_cons.mpr ⟨s_iload_n (j := 0) (by decide +kernel) rfl rfl, ?_⟩
  refine List.forall_mem_cons.mpr ⟨s_istore_n (j := 2) (by decide +kernel) rfl (by decide) rfl, ?_⟩
  refine List.forall_mem_cons.mpr ⟨s_iconst (by decide +kernel) rfl, ?_⟩
  refine List.forall_mem_cons.mpr ⟨s_istore_n (j := 3) (by decide +kernel) rfl (by decide) rfl, ?_⟩
  refine List.forall_mem_cons.mpr ⟨s_iload_n (j := 3) (by decide +kernel) rfl rfl, ?_⟩
  refine List.forall_mem_cons.mpr ⟨s_bipush (by decide +kernel) (by decide) rfl, ?_⟩
  refine List.forall_mem_cons.mpr ⟨s_icmp_ge (off := 26) (by decide +kernel) (by decide) rfl, ?_⟩
  refine List.forall_mem_cons.mpr ⟨s_iload_n (j := 2) (by decide +kernel) rfl rfl, ?_⟩
  refine List.forall_mem_cons.mpr ⟨s_if_lt (off := 22) (by decide +kernel) (by decide) rfl, ?_⟩
  refine List.forall_mem_cons.mpr ⟨s_iload_n (j := 2) (by decide +kernel) rfl rfl, ?_⟩
  refine List.forall_mem_cons.mpr ⟨s_iload_n (j := 1) (by decide +kernel) rfl rfl, ?_⟩
  refine List.forall_mem_cons.mpr ⟨s_icmp_ne (off := 5) (by decide +kernel) (by decide) rfl, ?_⟩
  refine List.forall_mem_cons.mpr ⟨s_iconst (by decide +kernel) rfl, ?_⟩
  refine List.forall_mem_cons.mpr ⟨s_zret rfl (by decide +kernel), ?_⟩
  refine List.forall_mem_cons.mpr ⟨s_getsA (idx := 22) q4_33 (by decide +kernel) rfl, ?_⟩
  refine List.forall_mem_cons.mpr ⟨s_iload_n (j := 2) (by decide +kernel) rfl rfl, ?_⟩
  refine List.forall_mem_cons.mpr ⟨s_tald (by decide +kernel) rfl, ?_⟩
  refine List.forall_mem_cons.mpr ⟨s_istore_n (j := 2) (by decide +kernel) rfl (by decide) rfl, ?_⟩
  refine List.forall_mem_cons.mpr ⟨s_iinc (by decide +kernel) (by decide) rfl, ?_⟩
  refine List.forall_mem_cons.mpr ⟨s_goto (off := (-26)) (by decide +kernel) (by decide), ?_⟩
  refine List.forall_mem_cons.mpr ⟨s_iconst (by decide +kernel) rfl, ?_⟩
  refine List.forall_mem_cons.mpr ⟨s_zret rfl (by decide +kernel), ?_⟩
  exact fun q hq => absurd hq List.not_mem_nil
def T_X0_perform : List (Nat × zO) := [(0, o_aload 1 0), (1, o_const 2 0), (2, o_putf 5 0 3), (5, o_iload 6 1), (6, o_const 7 0), (7, o_aload 8 0), (8, o_getf 11 0 1), (11, o_const 12 1), (12, o_isub 13), (13, o_calls 3 k_X8_within 16), (16, o_if_eq 28 19), (19, o_iload 20 2), (20, o_const 21 0), (21, o_const 22 3), (22, o_calls 3 k_X8_within 25), (25, o_if_ne 30 28), (28, o_const 29 0), (29, o_iret), (30, o_aload 31 0), (31, o_iload 32 1), (32, o_putf 35 0 4), (35, o_aload 36 0), (36, o_iload 37 2), (37, o_iload 38 3), (38, o_const 39 0), (39, o_callv 3 0 k_X0_own 42), (42, o_iret)]
set_option maxRecDepth 20000 in
theorem t_X0_perform : ∀ q ∈ T_X0_perform, zS k_X0_perform q.1 q.2 := by
  unfold T_X0_perform
  refine List.forall_mem_cons.mpr ⟨s_aload_n (j := 0) (by decide +kernel) rfl rfl, ?_⟩
  refine List.forall_mem_cons.mpr ⟨s_iconst (by decide +kernel) rfl, ?_⟩
  refine List.forall_mem_cons.mpr ⟨s_putf (idx := 25) (C := RX0) (T := TX0) (N := 5) rfl inX0 tyX0_ok nmX0 (by decide) rfl (tyX0_ok 3 (by decide)) (Or.inl ⟨rfl, kdI 0 3 (by decide)⟩) q2_32 (by decide +kernel) rfl, ?_⟩
  refine List.forall_mem_cons.mpr ⟨s_iload_n (j := 1) (by decide +kernel) rfl rfl, ?_⟩
  refine List.forall_mem_cons.mpr ⟨s_iconst (by decide +kernel) rfl, ?_⟩
  refine List.forall_mem_cons.mpr ⟨s_aload_n (j := 0) (by decide +kernel) rfl rfl, ?_⟩
  refine List.forall_mem_cons.mpr ⟨s_getf (idx := 18) (C := RX0) (T := TX0) (N := 5) rfl inX0 (by decide) q2_28 (by decide +kernel) rfl, ?_⟩
  refine List.forall_mem_cons.mpr ⟨s_iconst (by decide +kernel) rfl, ?_⟩
  refine List.forall_mem_cons.mpr ⟨s_isub (by decide +kernel) rfl, ?_⟩
  refine List.forall_mem_cons.mpr ⟨s_callsN (idx := 28) (k' := k_X8_within) rfl rfl rfl q2_145 q2_144 q1_1 de_X8_within (by decide) (by decide +kernel) rfl, ?_⟩
  refine List.forall_mem_cons.mpr ⟨s_if_eq (off := 12) (by decide +kernel) (by decide) rfl, ?_⟩
  refine List.forall_mem_cons.mpr ⟨s_iload_n (j := 2) (by decide +kernel) rfl rfl, ?_⟩
  refine List.forall_mem_cons.mpr ⟨s_iconst (by decide +kernel) rfl, ?_⟩
  refine List.forall_mem_cons.mpr ⟨s_iconst (by decide +kernel) rfl, ?_⟩
  refine List.forall_mem_cons.mpr ⟨s_callsN (idx := 28) (k' := k_X8_within) rfl rfl rfl q2_145 q2_144 q1_1 de_X8_within (by decide) (by decide +kernel) rfl, ?_⟩
  refine List.forall_mem_cons.mpr ⟨s_if_ne (off := 5) (by decide +kernel) (by decide) rfl, ?_⟩
  refine List.forall_mem_cons.mpr ⟨s_iconst (by decide +kernel) rfl, ?_⟩
  refine List.forall_mem_cons.mpr ⟨s_iret rfl (by decide +kernel), ?_⟩
  refine List.forall_mem_cons.mpr ⟨s_aload_n (j := 0) (by decide +kernel) rfl rfl, ?_⟩
  refine List.forall_mem_cons.mpr ⟨s_iload_n (j := 1) (by decide +kernel) rfl rfl, ?_⟩
  refine List.forall_mem_cons.mpr ⟨s_putf (idx := 32) (C := RX0) (T := TX0) (N := 5) rfl inX0 tyX0_ok nmX0 (by decide) rfl (tyX0_ok 4 (by decide)) (Or.inl ⟨rfl, kdI 0 4 (by decide)⟩) q2_34 (by decide +kernel) rfl, ?_⟩
  refine List.forall_mem_cons.mpr ⟨s_aload_n (j := 0) (by decide +kernel) rfl rfl, ?_⟩
  refine List.forall_mem_cons.mpr ⟨s_iload_n (j := 2) (by decide +kernel) rfl rfl, ?_⟩
  refine List.forall_mem_cons.mpr ⟨s_iload_n (j := 3) (by decide +kernel) rfl rfl, ?_⟩
  refine List.forall_mem_cons.mpr ⟨s_iconst (by decide +kernel) rfl, ?_⟩
  refine List.forall_mem_cons.mpr ⟨s_callv (idx := 35) (k' := k_X0_own) (T := TX0) (N := 5) rfl q4_26 q4_23 q4_25 qs_26 q1_8 de_X0_own (by decide) (by decide +kernel) rfl, ?_⟩
  refine List.forall_mem_cons.mpr ⟨s_iret rfl (by decide +kernel), ?_⟩
  exact fun q hq => absurd hq List.not_mem_nil
def T_X0_own : List (Nat × zO) := [(0, o_aload 1 0), (1, o_aload 2 0), (2, o_getf 5 0 0), (5, o_aload 6 0), (6, o_getf 9 0 4), (9, o_iald 10), (10, o_iload 11 1), (11, o_iload 12 2), (12, o_iload 13 3), (13, o_callv 4 0 k_X0_from 16), (16, o_iret)]
set_option maxRecDepth 20000 in
theorem t_X0_own : ∀ q ∈ T_X0_own, zS k_X0_own q.1 q.2 := by
  unfold T_X0_own
  refine List.forall_mem_cons.mpr ⟨s_aload_n (j := 0) (by decide +kernel) rfl rfl, ?_⟩
  refine List.forall_mem_cons.mpr ⟨s_aload_n (j := 0) (by decide +kernel) rfl rfl, ?_⟩
  refine List.forall_mem_cons.mpr ⟨s_getf (idx := 9) (C := RX0) (T := TX0) (N := 5) rfl inX0 (by decide) q2_26 (by decide +kernel) rfl, ?_⟩
  refine List.forall_mem_cons.mpr ⟨s_aload_n (j := 0) (by decide +kernel) rfl rfl, ?_⟩
  refine List.forall_mem_cons.mpr ⟨s_getf (idx := 32) (C := RX0) (T := TX0) (N := 5) rfl inX0 (by decide) q2_34 (by decide +kernel) rfl, ?_⟩
  refine List.forall_mem_cons.mpr ⟨s_iald (by decide +kernel) rfl, ?_⟩
  refine List.forall_mem_cons.mpr ⟨s_iload_n (j := 1) (by decide +kernel) rfl rfl, ?_⟩
  refine List.forall_mem_cons.mpr ⟨s_iload_n (j := 2) (by decide +kernel) rfl rfl, ?_⟩
  refine List.forall_mem_cons.mpr ⟨s_iload_n (j := 3) (by decide +kernel) rfl rfl, ?_⟩
  refine List.forall_mem_cons.mpr ⟨s_callv (idx := 39) (k' := k_X0_from) (T := TX0) (N := 5) rfl q4_30 q4_27 q4_29 qs_27 q1_8 de_X0_from (by decide) (by decide +kernel) rfl, ?_⟩
  refine List.forall_mem_cons.mpr ⟨s_iret rfl (by decide +kernel), ?_⟩
  exact fun q hq => absurd hq List.not_mem_nil
def T_X0_from : List (Nat × zO) := [(0, o_iload 1 1), (1, o_istore 3 5), (3, o_const 4 0), (4, o_istore 6 6), (6, o_iload 8 6), (8, o_const 10 7), (10, o_icmp_ge 45 13), (13, o_iload 15 5), (15, o_if_le 45 18), (18, o_gets 21 91), (21, o_const 22 4), (22, o_iload 24 5), (24, o_imul 25), (25, o_iload 26 2), (26, o_iadd 27), (27, o_tald 28), (28, o_if_ne 45 31), (31, o_gets 34 90), (34, o_iload 36 5), (36, o_tald 37), (37, o_istore 39 5), (39, o_iinc 42 6 1), (42, o_goto 6), (45, o_iload 47 5), (47, o_if_lt 57 50), (50, o_iload 52 4), (52, o_const 54 20), (54, o_icmp_le 61 57), (57, o_const 58 0), (58, o_goto 80), (61, o_aload 62 0), (62, o_gets 65 91), (65, o_const 66 4), (66, o_iload 68 5), (68, o_imul 69), (69, o_iload 70 2), (70, o_iadd 71), (71, o_tald 72), (72, o_iload 73 3), (73, o_iload 75 4), (75, o_const 76 1), (76, o_iadd 77), (77, o_callv 3 0 k_X0_run 80), (80, o_iret)]
set_option maxRecDepth 20000 in
theorem t_X0_from : ∀ q ∈ T_X0_from, zS k_X0_from q.1 q.2 := by
  unfold T_X0_from
  refine List.forall_mem_cons.mpr ⟨s_iload_n (j := 1) (by decide +kernel) rfl rfl, ?_⟩
  refine List.forall_mem_cons.mpr ⟨s_istore (by decide +kernel) (by decide) rfl, ?_⟩
  refine List.forall_mem_cons.mpr ⟨s_iconst (by decide +kernel) rfl, ?_⟩
  refine List.forall_mem_cons.mpr ⟨s_istore (by decide +kernel) (by decide) rfl, ?_⟩
  refine List.forall_mem_cons.mpr ⟨s_iload (by decide +kernel) rfl, ?_⟩
  refine List.forall_mem_cons.mpr ⟨s_bipush (by decide +kernel) (by decide) rfl, ?_⟩
  refine List.forall_mem_cons.mpr ⟨s_icmp_ge (off := 35) (by decide +kernel) (by decide) rfl, ?_⟩
  refine List.forall_mem_cons.mpr ⟨s_iload (by decide +kernel) rfl, ?_⟩
  refine List.forall_mem_cons.mpr ⟨s_if_le (off := 30) (by decide +kernel) (by decide) rfl, ?_⟩
  refine List.forall_mem_cons.mpr ⟨s_getsO (idx := 43) q4_31 (by decide +kernel) rfl, ?_⟩
  refine List.forall_mem_cons.mpr ⟨s_iconst (by decide +kernel) rfl, ?_⟩
  refine List.forall_mem_cons.mpr ⟨s_iload (by decide +kernel) rfl, ?_⟩
  refine List.forall_mem_cons.mpr ⟨s_imul (by decide +kernel) rfl, ?_⟩
  refine List.forall_mem_cons.mpr ⟨s_iload_n (j := 2) (by decide +kernel) rfl rfl, ?_⟩
  refine List.forall_mem_cons.mpr ⟨s_iadd (by decide +kernel) rfl, ?_⟩
  refine List.forall_mem_cons.mpr ⟨s_tald (by decide +kernel) rfl, ?_⟩
  refine List.forall_mem_cons.mpr ⟨s_if_ne (off := 17) (by decide +kernel) (by decide) rfl, ?_⟩
  refine List.forall_mem_cons.mpr ⟨s_getsA (idx := 22) q4_33 (by decide +kernel) rfl, ?_⟩
  refine List.forall_mem_cons.mpr ⟨s_iload (by decide +kernel) rfl, ?_⟩
  refine List.forall_mem_cons.mpr ⟨s_tald (by decide +kernel) rfl, ?_⟩
  refine List.forall_mem_cons.mpr ⟨s_istore (by decide +kernel) (by decide) rfl, ?_⟩
  refine List.forall_mem_cons.mpr ⟨s_iinc (by decide +kernel) (by decide) rfl, ?_⟩
  refine List.forall_mem_cons.mpr ⟨s_goto (off := (-36)) (by decide +kernel) (by decide), ?_⟩
  refine List.forall_mem_cons.mpr ⟨s_iload (by decide +kernel) rfl, ?_⟩
  refine List.forall_mem_cons.mpr ⟨s_if_lt (off := 10) (by decide +kernel) (by decide) rfl, ?_⟩
  refine List.forall_mem_cons.mpr ⟨s_iload (by decide +kernel) rfl, ?_⟩
  refine List.forall_mem_cons.mpr ⟨s_bipush (by decide +kernel) (by decide) rfl, ?_⟩
  refine List.forall_mem_cons.mpr ⟨s_icmp_le (off := 7) (by decide +kernel) (by decide) rfl, ?_⟩
  refine List.forall_mem_cons.mpr ⟨s_iconst (by decide +kernel) rfl, ?_⟩
  refine List.forall_mem_cons.mpr ⟨s_goto (off := 22) (by decide +kernel) (by decide), ?_⟩
  refine List.forall_mem_cons.mpr ⟨s_aload_n (j := 0) (by decide +kernel) rfl rfl, ?_⟩
  refine List.forall_mem_cons.mpr ⟨s_getsO (idx := 43) q4_31 (by decide +kernel) rfl, ?_⟩
  refine List.forall_mem_cons.mpr ⟨s_iconst (by decide +kernel) rfl, ?_⟩
  refine List.forall_mem_cons.mpr ⟨s_iload (by decide +kernel) rfl, ?_⟩
  refine List.forall_mem_cons.mpr ⟨s_imul (by decide +kernel) rfl, ?_⟩
  refine List.forall_mem_cons.mpr ⟨s_iload_n (j := 2) (by decide +kernel) rfl rfl, ?_⟩
  refine List.forall_mem_cons.mpr ⟨s_iadd (by decide +kernel) rfl, ?_⟩
  refine List.forall_mem_cons.mpr ⟨s_tald (by decide +kernel) rfl, ?_⟩
  refine List.forall_mem_cons.mpr ⟨s_iload_n (j := 3) (by decide +kernel) rfl rfl, ?_⟩
  refine List.forall_mem_cons.mpr ⟨s_iload (by decide +kernel) rfl, ?_⟩
  refine List.forall_mem_cons.mpr ⟨s_iconst (by decide +kernel) rfl, ?_⟩
  refine List.forall_mem_cons.mpr ⟨s_iadd (by decide +kernel) rfl, ?_⟩
  refine List.forall_mem_cons.mpr ⟨s_callv (idx := 46) (k' := k_X0_run) (T := TX0) (N := 5) rfl q4_38 q4_35 q4_37 qs_28 q1_8 de_X0_run (by decide) (by decide +kernel) rfl, ?_⟩
  refine List.forall_mem_cons.mpr ⟨s_iret rfl (by decide +kernel), ?_⟩
  exact fun q hq => absurd hq List.not_mem_nil
def T_X0_note : List (Nat × zO) := [(0, o_aload 1 0), (1, o_getf 4 0 3), (4, o_const 6 24), (6, o_icmp_ge 19 9), (9, o_aload 10 0), (10, o_getf 13 0 2), (13, o_aload 14 0), (14, o_getf 17 0 3), (17, o_iload 18 1), (18, o_iast 19), (19, o_aload 20 0), (20, o_dup 21), (21, o_getf 24 0 3), (24, o_const 25 1), (25, o_iadd 26), (26, o_putf 29 0 3), (29, o_vret)]
set_option maxRecDepth 20000 in
theorem t_X0_note : ∀ q ∈ T_X0_note, zS k_X0_note q.1 q.2 := by
  unfold T_X0_note
  refine List.forall_mem_cons.mpr ⟨s_aload_n (j := 0) (by decide +kernel) rfl rfl, ?_⟩
  refine List.forall_mem_cons.mpr ⟨s_getf (idx := 25) (C := RX0) (T := TX0) (N := 5) rfl inX0 (by decide) q2_32 (by decide +kernel) rfl, ?_⟩
  refine List.forall_mem_cons.mpr ⟨s_bipush (by decide +kernel) (by decide) rfl, ?_⟩
  refine List.forall_mem_cons.mpr ⟨s_icmp_ge (off := 13) (by decide +kernel) (by decide) rfl, ?_⟩
  refine List.forall_mem_cons.mpr ⟨s_aload_n (j := 0) (by decide +kernel) rfl rfl, ?_⟩
  refine List.forall_mem_cons.mpr ⟨s_getf (idx := 15) (C := RX0) (T := TX0) (N := 5) rfl inX0 (by decide) q2_30 (by decide +kernel) rfl, ?_⟩
  refine List.forall_mem_cons.mpr ⟨s_aload_n (j := 0) (by decide +kernel) rfl rfl, ?_⟩
  refine List.forall_mem_cons.mpr ⟨s_getf (idx := 25) (C := RX0) (T := TX0) (N := 5) rfl inX0 (by decide) q2_32 (by decide +kernel) rfl, ?_⟩
  refine List.forall_mem_cons.mpr ⟨s_iload_n (j := 1) (by decide +kernel) rfl rfl, ?_⟩
  refine List.forall_mem_cons.mpr ⟨s_iast (by decide +kernel) rfl, ?_⟩
  refine List.forall_mem_cons.mpr ⟨s_aload_n (j := 0) (by decide +kernel) rfl rfl, ?_⟩
  refine List.forall_mem_cons.mpr ⟨s_dup (by decide +kernel) rfl, ?_⟩
  refine List.forall_mem_cons.mpr ⟨s_getf (idx := 25) (C := RX0) (T := TX0) (N := 5) rfl inX0 (by decide) q2_32 (by decide +kernel) rfl, ?_⟩
  refine List.forall_mem_cons.mpr ⟨s_iconst (by decide +kernel) rfl, ?_⟩
  refine List.forall_mem_cons.mpr ⟨s_iadd (by decide +kernel) rfl, ?_⟩
  refine List.forall_mem_cons.mpr ⟨s_putf (idx := 25) (C := RX0) (T := TX0) (N := 5) rfl inX0 tyX0_ok nmX0 (by decide) rfl (tyX0_ok 3 (by decide)) (Or.inl ⟨rfl, kdI 0 3 (by decide)⟩) q2_32 (by decide +kernel) rfl, ?_⟩
  refine List.forall_mem_cons.mpr ⟨s_vret rfl (by decide +kernel), ?_⟩
  exact fun q hq => absurd hq List.not_mem_nil
def T_X0_run : List (Nat × zO) := [(0, o_aload 1 0), (1, o_iload 2 1), (2, o_callv 1 0 k_X0_note 5), (5, o_iload 6 1), (6, o_lsw [(1, 112), (2, 119), (10, 135), (11, 145), (20, 152), (30, 163), (40, 173), (41, 184), (50, 195), (60, 206), (61, 217), (70, 234)] 251), (112, o_iload 113 2), (113, o_aload 114 0), (114, o_getf 117 0 4), (117, o_iadd 118), (118, o_iret), (119, o_aload 120 0), (120, o_const 121 1), (121, o_iload 122 2), (122, o_iload 123 3), (123, o_callv 3 0 k_X0_own 126), (126, o_aload 127 0), (127, o_const 128 2), (128, o_const 129 1), (129, o_iload 130 3), (130, o_callv 3 0 k_X0_own 133), (133, o_isub 134), (134, o_iret), (135, o_aload 136 0), (136, o_const 137 0), (137, o_iload 138 2), (138, o_iload 139 3), (139, o_callv 3 0 k_X0_own 142), (142, o_const 143 2), (143, o_imul 144), (144, o_iret), (145, o_iload 146 2), (146, o_aload 147 0), (147, o_getf 150 0 4), (150, o_ixor 151), (151, o_iret), (152, o_aload 153 0), (153, o_const 154 0), (154, o_const 155 0), (155, o_iload 156 2), (156, o_iload 157 3), (157, o_callv 4 0 k_X0_from 160), (160, o_const 161 3), (161, o_iadd 162), (162, o_iret), (163, o_aload 164 0), (164, o_const 165 0), (165, o_const 166 1), (166, o_iload 167 2), (167, o_iload 168 3), (168, o_callv 4 0 k_X0_from 171), (171, o_ineg 172), (172, o_iret), (173, o_aload 174 0), (174, o_const 175 2), (175, o_const 176 2), (176, o_iload 177 2), (177, o_iload 178 3), (178, o_callv 4 0 k_X0_from 181), (181, o_const 182 3), (182, o_imul 183), (183, o_iret), (184, o_aload 185 0), (185, o_const 186 2), (186, o_const 187 1), (187, o_iload 188 2), (188, o_const 189 1), (189, o_iadd 190), (190, o_iload 191 3), (191, o_callv 4 0 k_X0_from 194), (194, o_iret), (195, o_aload 196 0), (196, o_const 197 0), (197, o_const 198 3), (198, o_iload 199 2), (199, o_iload 200 3), (200, o_callv 4 0 k_X0_from 203), (203, o_const 204 5), (204, o_ixor 205), (205, o_iret), (206, o_aload 207 0), (207, o_const 208 1), (208, o_const 209 0), (209, o_iload 210 2), (210, o_iload 211 3), (211, o_callv 4 0 k_X0_from 214), (214, o_const 215 2), (215, o_imul 216), (216, o_iret), (217, o_aload 218 0), (218, o_const 219 1), (219, o_const 220 2), (220, o_iload 221 2), (221, o_iload 222 3), (222, o_callv 4 0 k_X0_from 225), (225, o_aload 226 0), (226, o_const 227 0), (227, o_const 228 2), (228, o_iload 229 3), (229, o_callv 3 0 k_X0_own 232), (232, o_iadd 233), (233, o_iret), (234, o_aload 235 0), (235, o_const 236 0), (236, o_const 237 1), (237, o_iload 238 2), (238, o_iload 239 3), (239, o_callv 4 0 k_X0_from 242), (242, o_aload 243 0), (243, o_const 244 2), (244, o_const 245 2), (245, o_iload 246 3), (246, o_callv 3 0 k_X0_own 249), (249, o_isub 250), (250, o_iret), (251, o_const 252 0), (252, o_iret)]
set_option maxRecDepth 20000 in
theorem t_X0_run : ∀ q ∈ T_X0_run, zS k_X0_run q.1 q.2 := by
  unfold T_X0_run
  refine List.forall_mem_cons.mpr ⟨s_aload_n (j := 0) (by decide +kernel) rfl rfl, ?_⟩
  refine List.forall_mem_cons.mpr ⟨s_iload_n (j := 1) (by decide +kernel) rfl rfl, ?_⟩
  refine List.forall_mem_cons.mpr ⟨s_callv (idx := 49) (k' := k_X0_note) (T := TX0) (N := 5) rfl q4_42 q4_39 q4_41 qs_29 q1_8 de_X0_note (by decide) (by decide +kernel) rfl, ?_⟩
  refine List.forall_mem_cons.mpr ⟨s_iload_n (j := 1) (by decide +kernel) rfl rfl, ?_⟩
  refine List.forall_mem_cons.mpr ⟨s_lsw (dfo := 245) (os := #[(1, 106), (2, 113), (10, 129), (11, 139), (20, 146), (30, 157), (40, 167), (41, 178), (50, 189), (60, 200), (61, 211), (70, 228)]) (len := 106) (by decide +kernel) (by decide) (by decide) (by decide), ?_⟩
  refine List.forall_mem_cons.mpr ⟨s_iload_n (j := 2) (by decide +kernel) rfl rfl, ?_⟩
  refine List.forall_mem_cons.mpr ⟨s_aload_n (j := 0) (by decide +kernel) rfl rfl, ?_⟩
  refine List.forall_mem_cons.mpr ⟨s_getf (idx := 32) (C := RX0) (T := TX0) (N := 5) rfl inX0 (by decide) q2_34 (by decide +kernel) rfl, ?_⟩
  refine List.forall_mem_cons.mpr ⟨s_iadd (by decide +kernel) rfl, ?_⟩
  refine List.forall_mem_cons.mpr ⟨s_iret rfl (by decide +kernel), ?_⟩
  refine List.forall_mem_cons.mpr ⟨s_aload_n (j := 0) (by decide +kernel) rfl rfl, ?_⟩
  refine List.forall_mem_cons.mpr ⟨s_iconst (by decide +kernel) rfl, ?_⟩
  refine List.forall_mem_cons.mpr ⟨s_iload_n (j := 2) (by decide +kernel) rfl rfl, ?_⟩
  refine List.forall_mem_cons.mpr ⟨s_iload_n (j := 3) (by decide +kernel) rfl rfl, ?_⟩
  refine List.forall_mem_cons.mpr ⟨s_callv (idx := 35) (k' := k_X0_own) (T := TX0) (N := 5) rfl q4_26 q4_23 q4_25 qs_26 q1_8 de_X0_own (by decide) (by decide +kernel) rfl, ?_⟩
  refine List.forall_mem_cons.mpr ⟨s_aload_n (j := 0) (by decide +kernel) rfl rfl, ?_⟩
  refine List.forall_mem_cons.mpr ⟨s_iconst (by decide +kernel) rfl, ?_⟩
  refine List.forall_mem_cons.mpr ⟨s_iconst (by decide +kernel) rfl, ?_⟩
  refine List.forall_mem_cons.mpr ⟨s_iload_n (j := 3) (by decide +kernel) rfl rfl, ?_⟩
  refine List.forall_mem_cons.mpr ⟨s_callv (idx := 35) (k' := k_X0_own) (T := TX0) (N := 5) rfl q4_26 q4_23 q4_25 qs_26 q1_8 de_X0_own (by decide) (by decide +kernel) rfl, ?_⟩
  refine List.forall_mem_cons.mpr ⟨s_isub (by decide +kernel) rfl, ?_⟩
  refine List.forall_mem_cons.mpr ⟨s_iret rfl (by decide +kernel), ?_⟩
  refine List.forall_mem_cons.mpr ⟨s_aload_n (j := 0) (by decide +kernel) rfl rfl, ?_⟩
  refine List.forall_mem_cons.mpr ⟨s_iconst (by decide +kernel) rfl, ?_⟩
  refine List.forall_mem_cons.mpr ⟨s_iload_n (j := 2) (by decide +kernel) rfl rfl, ?_⟩
  refine List.forall_mem_cons.mpr ⟨s_iload_n (j := 3) (by decide +kernel) rfl rfl, ?_⟩
  refine List.forall_mem_cons.mpr ⟨s_callv (idx := 35) (k' := k_X0_own) (T := TX0) (N := 5) rfl q4_26 q4_23 q4_25 qs_26 q1_8 de_X0_own (by decide) (by decide +kernel) rfl, ?_⟩
  refine List.forall_mem_cons.mpr ⟨s_iconst (by decide +kernel) rfl, ?_⟩
  refine List.forall_mem_cons.mpr ⟨s_imul (by decide +kernel) rfl, ?_⟩
  refine List.forall_mem_cons.mpr ⟨s_iret rfl (by decide +kernel), ?_⟩
  refine List.forall_mem_cons.mpr ⟨s_iload_n (j := 2) (by decide +kernel) rfl rfl, ?_⟩
  refine List.forall_mem_cons.mpr ⟨s_aload_n (j := 0) (by decide +kernel) rfl rfl, ?_⟩
  refine List.forall_mem_cons.mpr ⟨s_getf (idx := 32) (C := RX0) (T := TX0) (N := 5) rfl inX0 (by decide) q2_34 (by decide +kernel) rfl, ?_⟩
  refine List.forall_mem_cons.mpr ⟨s_ixor (by decide +kernel) rfl, ?_⟩
  refine List.forall_mem_cons.mpr ⟨s_iret rfl (by decide +kernel), ?_⟩
  refine List.forall_mem_cons.mpr ⟨s_aload_n (j := 0) (by decide +kernel) rfl rfl, ?_⟩
  refine List.forall_mem_cons.mpr ⟨s_iconst (by decide +kernel) rfl, ?_⟩
  refine List.forall_mem_cons.mpr ⟨s_iconst (by decide +kernel) rfl, ?_⟩
  refine List.forall_mem_cons.mpr ⟨s_iload_n (j := 2) (by decide +kernel) rfl rfl, ?_⟩
  refine List.forall_mem_cons.mpr ⟨s_iload_n (j := 3) (by decide +kernel) rfl rfl, ?_⟩
  refine List.forall_mem_cons.mpr ⟨s_callv (idx := 39) (k' := k_X0_from) (T := TX0) (N := 5) rfl q4_30 q4_27 q4_29 qs_27 q1_8 de_X0_from (by decide) (by decide +kernel) rfl, ?_⟩
  refine List.forall_mem_cons.mpr ⟨s_iconst (by decide +kernel) rfl, ?_⟩
  refine List.forall_mem_cons.mpr ⟨s_iadd (by decide +kernel) rfl, ?_⟩
  refine List.forall_mem_cons.mpr ⟨s_iret rfl (by decide +kernel), ?_⟩
  refine List.forall_mem_cons.mpr ⟨s_aload_n (j := 0) (by decide +kernel) rfl rfl, ?_⟩
  refine List.forall_mem_cons.mpr ⟨s_iconst (by decide +kernel) rfl, ?_⟩
  refine List.forall_mem_cons.mpr ⟨s_iconst (by decide +kernel) rfl, ?_⟩
  refine List.forall_mem_cons.mpr ⟨s_iload_n (j := 2) (by decide +kernel) rfl rfl, ?_⟩
  refine List.forall_mem_cons.mpr ⟨s_iload_n (j := 3) (by decide +kernel) rfl rfl, ?_⟩
  refine List.forall_mem_cons.mpr ⟨s_callv (idx := 39) (k' := k_X0_from) (T := TX0) (N := 5) rfl q4_30 q4_27 q4_29 qs_27 q1_8 de_X0_from (by decide) (by decide +kernel) rfl, ?_⟩
  refine List.forall_mem_cons.mpr ⟨s_ineg (by decide +kernel) rfl, ?_⟩
  refine List.forall_mem_cons.mpr ⟨s_iret rfl (by decide +kernel), ?_⟩
  refine List.forall_mem_cons.mpr ⟨s_aload_n (j := 0) (by decide +kernel) rfl rfl, ?_⟩
  refine List.forall_mem_cons.mpr ⟨s_iconst (by decide +kernel) rfl, ?_⟩
  refine List.forall_mem_cons.mpr ⟨s_iconst (by decide +kernel) rfl, ?_⟩
  refine List.forall_mem_cons.mpr ⟨s_iload_n (j := 2) (by decide +kernel) rfl rfl, ?_⟩
  refine List.forall_mem_cons.mpr ⟨s_iload_n (j := 3) (by decide +kernel) rfl rfl, ?_⟩
  refine List.forall_mem_cons.mpr ⟨s_callv (idx := 39) (k' := k_X0_from) (T := TX0) (N := 5) rfl q4_30 q4_27 q4_29 qs_27 q1_8 de_X0_from (by decide) (by decide +kernel) rfl, ?_⟩
  refine List.forall_mem_cons.mpr ⟨s_iconst (by decide +kernel) rfl, ?_⟩
  refine List.forall_mem_cons.mpr ⟨s_imul (by decide +kernel) rfl, ?_⟩
  refine List.forall_mem_cons.mpr ⟨s_iret rfl (by decide +kernel), ?_⟩
  refine List.forall_mem_cons.mpr ⟨s_aload_n (j := 0) (by decide +kernel) rfl rfl, ?_⟩
  refine List.forall_mem_cons.mpr ⟨s_iconst (by decide +kernel) rfl, ?_⟩
  refine List.forall_mem_cons.mpr ⟨s_iconst (by decide +kernel) rfl, ?_⟩
  refine List.forall_mem_cons.mpr ⟨s_iload_n (j := 2) (by decide +kernel) rfl rfl, ?_⟩
  refine List.forall_mem_cons.mpr ⟨s_iconst (by decide +kernel) rfl, ?_⟩
  refine List.forall_mem_cons.mpr ⟨s_iadd (by decide +kernel) rfl, ?_⟩
  refine List.forall_mem_cons.mpr ⟨s_iload_n (j := 3) (by decide +kernel) rfl rfl, ?_⟩
  refine List.forall_mem_cons.mpr ⟨s_callv (idx := 39) (k' := k_X0_from) (T := TX0) (N := 5) rfl q4_30 q4_27 q4_29 qs_27 q1_8 de_X0_from (by decide) (by decide +kernel) rfl, ?_⟩
  refine List.forall_mem_cons.mpr ⟨s_iret rfl (by decide +kernel), ?_⟩
  refine List.forall_mem_cons.mpr ⟨s_aload_n (j := 0) (by decide +kernel) rfl rfl, ?_⟩
  refine List.forall_mem_cons.mpr ⟨s_iconst (by decide +kernel) rfl, ?_⟩
  refine List.forall_mem_cons.mpr ⟨s_iconst (by decide +kernel) rfl, ?_⟩
  refine List.forall_mem_cons.mpr ⟨s_iload_n (j := 2) (by decide +kernel) rfl rfl, ?_⟩
  refine List.forall_mem_cons.mpr ⟨s_iload_n (j := 3) (by decide +kernel) rfl rfl, ?_⟩
  refine List.forall_mem_cons.mpr ⟨s_callv (idx := 39) (k' := k_X0_from) (T := TX0) (N := 5) rfl q4_30 q4_27 q4_29 qs_27 q1_8 de_X0_from (by decide) (by decide +kernel) rfl, ?_⟩
  refine List.forall_mem_cons.mpr ⟨s_iconst (by decide +kernel) rfl, ?_⟩
  refine List.forall_mem_cons.mpr ⟨s_ixor (by decide +kernel) rfl, ?_⟩
  refine List.forall_mem_cons.mpr ⟨s_iret rfl (by decide +kernel), ?_⟩
  refine List.forall_mem_cons.mpr ⟨s_aload_n (j := 0) (by decide +kernel) rfl rfl, ?_⟩
  refine List.forall_mem_cons.mpr ⟨s_iconst (by decide +kernel) rfl, ?_⟩
  refine List.forall_mem_cons.mpr ⟨s_iconst (by decide +kernel) rfl, ?_⟩
  refine List.forall_mem_cons.mpr ⟨s_iload_n (j := 2) (by decide +kernel) rfl rfl, ?_⟩
  refine List.forall_mem_cons.mpr ⟨s_iload_n (j := 3) (by decide +kernel) rfl rfl, ?_⟩
  refine List.forall_mem_cons.mpr ⟨s_callv (idx := 39) (k' := k_X0_from) (T := TX0) (N := 5) rfl q4_30 q4_27 q4_29 qs_27 q1_8 de_X0_from (by decide) (by decide +kernel) rfl, ?_⟩
  refine List.forall_mem_cons.mpr ⟨s_iconst (by decide +kernel) rfl, ?_⟩
  refine List.forall_mem_cons.mpr ⟨s_imul (by decide +kernel) rfl, ?_⟩
  refine List.forall_mem_cons.mpr ⟨s_iret rfl (by decide +kernel), ?_⟩
  refine List.forall_mem_cons.mpr ⟨s_aload_n (j := 0) (by decide +kernel) rfl rfl, ?_⟩
  refine List.forall_mem_cons.mpr ⟨s_iconst (by decide +kernel) rfl, ?_⟩
  refine List.forall_mem_cons.mpr ⟨s_iconst (by decide +kernel) rfl, ?_⟩
  refine List.forall_mem_cons.mpr ⟨s_iload_n (j := 2) (by decide +kernel) rfl rfl, ?_⟩
  refine List.forall_mem_cons.mpr ⟨s_iload_n (j := 3) (by decide +kernel) rfl rfl, ?_⟩
  refine List.forall_mem_cons.mpr ⟨s_callv (idx := 39) (k' := k_X0_from) (T := TX0) (N := 5) rfl q4_30 q4_27 q4_29 qs_27 q1_8 de_X0_from (by decide) (by decide +kernel) rfl, ?_⟩
  refine List.forall_mem_cons.mpr ⟨s_aload_n (j := 0) (by decide +kernel) rfl rfl, ?_⟩
  refine List.forall_mem_cons.mpr ⟨s_iconst (by decide +kernel) rfl, ?_⟩
  refine List.forall_mem_cons.mpr ⟨s_iconst (by decide +kernel) rfl, ?_⟩
  refine List.forall_mem_cons.mpr ⟨s_iload_n (j := 3) (by decide +kernel) rfl rfl, ?_⟩
  refine List.forall_mem_cons.mpr ⟨s_callv (idx := 35) (k' := k_X0_own) (T := TX0) (N := 5) rfl q4_26 q4_23 q4_25 qs_26 q1_8 de_X0_own (by decide) (by decide +kernel) rfl, ?_⟩
  refine List.forall_mem_cons.mpr ⟨s_iadd (by decide +kernel) rfl, ?_⟩
  refine List.forall_mem_cons.mpr ⟨s_iret rfl (by decide +kernel), ?_⟩
  refine List.forall_mem_cons.mpr ⟨s_aload_n (j := 0) (by decide +kernel) rfl rfl, ?_⟩
  refine List.forall_mem_cons.mpr ⟨s_iconst (by decide +kernel) rfl, ?_⟩
  refine List.forall_mem_cons.mpr ⟨s_iconst (by decide +kernel) rfl, ?_⟩
  refine List.forall_mem_cons.mpr ⟨s_iload_n (j := 2) (by decide +kernel) rfl rfl, ?_⟩
  refine List.forall_mem_cons.mpr ⟨s_iload_n (j := 3) (by decide +kernel) rfl rfl, ?_⟩
  refine List.forall_mem_cons.mpr ⟨s_callv (idx := 39) (k' := k_X0_from) (T := TX0) (N := 5) rfl q4_30 q4_27 q4_29 qs_27 q1_8 de_X0_from (by decide) (by decide +kernel) rfl, ?_⟩
  refine List.forall_mem_cons.mpr ⟨s_aload_n (j := 0) (by decide +kernel) rfl rfl, ?_⟩
  refine List.forall_mem_cons.mpr ⟨s_iconst (by decide +kernel) rfl, ?_⟩
  refine List.forall_mem_cons.mpr ⟨s_iconst (by decide +kernel) rfl, ?_⟩
  refine List.forall_mem_cons.mpr ⟨s_iload_n (j := 3) (by decide +kernel) rfl rfl, ?_⟩
  refine List.forall_mem_cons.mpr ⟨s_callv (idx := 35) (k' := k_X0_own) (T := TX0) (N := 5) rfl q4_26 q4_23 q4_25 qs_26 q1_8 de_X0_own (by decide) (by decide +kernel) rfl, ?_⟩
  refine List.forall_mem_cons.mpr ⟨s_isub (by decide +kernel) rfl, ?_⟩
  refine List.forall_mem_cons.mpr ⟨s_iret rfl (by decide +kernel), ?_⟩
  refine List.forall_mem_cons.mpr ⟨s_iconst (by decide +kernel) rfl, ?_⟩
  refine List.forall_mem_cons.mpr ⟨s_iret rfl (by decide +kernel), ?_⟩
  exact fun q hq => absurd hq List.not_mem_nil
def T_X1_tell : List (Nat × zO) := [(0, o_aload 1 0), (1, o_getf 4 1 0), (4, o_iload 5 1), (5, o_callv 1 2 k_X2_rowOf 8), (8, o_astore 10 4), (10, o_aload 12 4), (12, o_iload 13 2), (13, o_iald 14), (14, o_istore 16 5), (16, o_iload 18 5), (18, o_iload 19 3), (19, o_icmp_ne 25 22), (22, o_iload 24 5), (24, o_iret), (25, o_aload 27 4), (27, o_iload 28 2), (28, o_iload 29 3), (29, o_iast 30), (30, o_aload 31 0), (31, o_getf 34 1 5), (34, o_const 36 40), (36, o_icmp_lt 43 39), (39, o_aload 40 0), (40, o_callv 0 1 k_X1_forgetOldest 43), (43, o_aload 44 0), (44, o_getf 47 1 1), (47, o_aload 48 0), (48, o_getf 51 1 5), (51, o_iload 52 1), (52, o_iast 53), (53, o_aload 54 0), (54, o_getf 57 1 2), (57, o_aload 58 0), (58, o_getf 61 1 5), (61, o_iload 62 2), (62, o_iast 63), (63, o_aload 64 0), (64, o_getf 67 1 3), (67, o_aload 68 0), (68, o_getf 71 1 5), (71, o_iload 73 5), (73, o_iast 74), (74, o_aload 75 0), (75, o_getf 78 1 4), (78, o_aload 79 0), (79, o_getf 82 1 5), (82, o_iload 83 3), (83, o_iast 84), (84, o_aload 85 0), (85, o_dup 86), (86, o_getf 89 1 5), (89, o_const 90 1), (90, o_iadd 91), (91, o_putf 94 1 5), (94, o_aload 95 0), (95, o_aload 96 0), (96, o_getf 99 1 5), (99, o_putf 102 1 6), (102, o_iload 104 5), (104, o_iret)]
set_option maxRecDepth 20000 in
theorem t_X1_tell : ∀ q ∈ T_X1_tell, zS k_X1_tell q.1 q.2 := by
  unfold T_X1_tell
  refine List.forall_mem_cons.mpr ⟨s_aload_n (j := 0) (by decide +kernel) rfl rfl, ?_⟩
  refine List.forall_mem_cons.mpr ⟨s_getf (idx := 24) (C := RX1) (T := TX1) (N := 7) rfl inX1 (by decide) q1_236 (by decide +kernel) rfl, ?_⟩
  refine List.forall_mem_cons.mpr ⟨s_iload_n (j := 1) (by decide +kernel) rfl rfl, ?_⟩
  refine List.forall_mem_cons.mpr ⟨s_callv (idx := 28) (k' := k_X2_rowOf) (T := TX2) (N := 20) rfl q2_203 q2_200 q2_201 q2_202 q1_3 de_X2_rowOf (by decide) (by decide +kernel) rfl, ?_⟩
  refine List.forall_mem_cons.mpr ⟨s_astore (by decide +kernel) (by decide) rfl, ?_⟩
  refine List.forall_mem_cons.mpr ⟨s_aload (by decide +kernel) rfl, ?_⟩
  refine List.forall_mem_cons.mpr ⟨s_iload_n (j := 2) (by decide +kernel) rfl rfl, ?_⟩
  refine List.forall_mem_cons.mpr ⟨s_iald (by decide +kernel) rfl, ?_⟩
  refine List.forall_mem_cons.mpr ⟨s_istore (by decide +kernel) (by decide) rfl, ?_⟩
  refine List.forall_mem_cons.mpr ⟨s_iload (by decide +kernel) rfl, ?_⟩
  refine List.forall_mem_cons.mpr ⟨s_iload_n (j := 3) (by decide +kernel) rfl rfl, ?_⟩
  refine List.forall_mem_cons.mpr ⟨s_icmp_ne (off := 6) (by decide +kernel) (by decide) rfl, ?_⟩
  refine List.forall_mem_cons.mpr ⟨s_iload (by decide +kernel) rfl, ?_⟩
  refine List.forall_mem_cons.mpr ⟨s_iret rfl (by decide +kernel), ?_⟩
  refine List.forall_mem_cons.mpr ⟨s_aload (by decide +kernel) rfl, ?_⟩
  refine List.forall_mem_cons.mpr ⟨s_iload_n (j := 2) (by decide +kernel) rfl rfl, ?_⟩
  refine List.forall_mem_cons.mpr ⟨s_iload_n (j := 3) (by decide +kernel) rfl rfl, ?_⟩
  refine List.forall_mem_cons.mpr ⟨s_iast (by decide +kernel) rfl, ?_⟩
  refine List.forall_mem_cons.mpr ⟨s_aload_n (j := 0) (by decide +kernel) rfl rfl, ?_⟩
  refine List.forall_mem_cons.mpr ⟨s_getf (idx := 34) (C := RX1) (T := TX1) (N := 7) rfl inX1 (by decide) q2_1 (by decide +kernel) rfl, ?_⟩
  refine List.forall_mem_cons.mpr ⟨s_bipush (by decide +kernel) (by decide) rfl, ?_⟩
  refine List.forall_mem_cons.mpr ⟨s_icmp_lt (off := 7) (by decide +kernel) (by decide) rfl, ?_⟩
  refine List.forall_mem_cons.mpr ⟨s_aload_n (j := 0) (by decide +kernel) rfl rfl, ?_⟩
  refine List.forall_mem_cons.mpr ⟨s_callv (idx := 38) (k' := k_X1_forgetOldest) (T := TX1) (N := 7) rfl q2_207 q2_204 q2_206 qs_6 q1_7 de_X1_forgetOldest (by decide) (by decide +kernel) rfl, ?_⟩
  refine List.forall_mem_cons.mpr ⟨s_aload_n (j := 0) (by decide +kernel) rfl rfl, ?_⟩
  refine List.forall_mem_cons.mpr ⟨s_getf (idx := 9) (C := RX1) (T := TX1) (N := 7) rfl inX1 (by decide) q1_237 (by decide +kernel) rfl, ?_⟩
  refine List.forall_mem_cons.mpr ⟨s_aload_n (j := 0) (by decide +kernel) rfl rfl, ?_⟩
  refine List.forall_mem_cons.mpr ⟨s_getf (idx := 34) (C := RX1) (T := TX1) (N := 7) rfl inX1 (by decide) q2_1 (by decide +kernel) rfl, ?_⟩
  refine List.forall_mem_cons.mpr ⟨s_iload_n (j := 1) (by decide +kernel) rfl rfl, ?_⟩
  refine List.forall_mem_cons.mpr ⟨s_iast (by decide +kernel) rfl, ?_⟩
  refine List.forall_mem_cons.mpr ⟨s_aload_n (j := 0) (by decide +kernel) rfl rfl, ?_⟩
  refine List.forall_mem_cons.mpr ⟨s_getf (idx := 15) (C := RX1) (T := TX1) (N := 7) rfl inX1 (by decide) q1_238 (by decide +kernel) rfl, ?_⟩
  refine List.forall_mem_cons.mpr ⟨s_aload_n (j := 0) (by decide +kernel) rfl rfl, ?_⟩
  refine List.forall_mem_cons.mpr ⟨s_getf (idx := 34) (C := RX1) (T := TX1) (N := 7) rfl inX1 (by decide) q2_1 (by decide +kernel) rfl, ?_⟩
  refine List.forall_mem_cons.mpr ⟨s_iload_n (j := 2) (by decide +kernel) rfl rfl, ?_⟩
  refine List.forall_mem_cons.mpr ⟨s_iast (by decide +kernel) rfl, ?_⟩
  refine List.forall_mem_cons.mpr ⟨s_aload_n (j := 0) (by decide +kernel) rfl rfl, ?_⟩
  refine List.forall_mem_cons.mpr ⟨s_getf (idx := 18) (C := RX1) (T := TX1) (N := 7) rfl inX1 (by decide) q1_239 (by decide +kernel) rfl, ?_⟩
  refine List.forall_mem_cons.mpr ⟨s_aload_n (j := 0) (by decide +kernel) rfl rfl, ?_⟩
  refine List.forall_mem_cons.mpr ⟨s_getf (idx := 34) (C := RX1) (T := TX1) (N := 7) rfl inX1 (by decide) q2_1 (by decide +kernel) rfl, ?_⟩
  refine List.forall_mem_cons.mpr ⟨s_iload (by decide +kernel) rfl, ?_⟩
  refine List.forall_mem_cons.mpr ⟨s_iast (by decide +kernel) rfl, ?_⟩
  refine List.forall_mem_cons.mpr ⟨s_aload_n (j := 0) (by decide +kernel) rfl rfl, ?_⟩
  refine List.forall_mem_cons.mpr ⟨s_getf (idx := 21) (C := RX1) (T := TX1) (N := 7) rfl inX1 (by decide) q2_0 (by decide +kernel) rfl, ?_⟩
  refine List.forall_mem_cons.mpr ⟨s_aload_n (j := 0) (by decide +kernel) rfl rfl, ?_⟩
  refine List.forall_mem_cons.mpr ⟨s_getf (idx := 34) (C := RX1) (T := TX1) (N := 7) rfl inX1 (by decide) q2_1 (by decide +kernel) rfl, ?_⟩
  refine List.forall_mem_cons.mpr ⟨s_iload_n (j := 3) (by decide +kernel) rfl rfl, ?_⟩
  refine List.forall_mem_cons.mpr ⟨s_iast (by decide +kernel) rfl, ?_⟩
  refine List.forall_mem_cons.mpr ⟨s_aload_n (j := 0) (by decide +kernel) rfl rfl, ?_⟩
  refine List.forall_mem_cons.mpr ⟨s_dup (by decide +kernel) rfl, ?_⟩
  refine List.forall_mem_cons.mpr ⟨s_getf (idx := 34) (C := RX1) (T := TX1) (N := 7) rfl inX1 (by decide) q2_1 (by decide +kernel) rfl, ?_⟩
  refine List.forall_mem_cons.mpr ⟨s_iconst (by decide +kernel) rfl, ?_⟩
  refine List.forall_mem_cons.mpr ⟨s_iadd (by decide +kernel) rfl, ?_⟩
  refine List.forall_mem_cons.mpr ⟨s_putf (idx := 34) (C := RX1) (T := TX1) (N := 7) rfl inX1 tyX1_ok nmX1 (by decide) rfl (tyX1_ok 5 (by decide)) (Or.inl ⟨rfl, kdI 1 5 (by decide)⟩) q2_1 (by decide +kernel) rfl, ?_⟩
  refine List.forall_mem_cons.mpr ⟨s_aload_n (j := 0) (by decide +kernel) rfl rfl, ?_⟩
  refine List.forall_mem_cons.mpr ⟨s_aload_n (j := 0) (by decide +kernel) rfl rfl, ?_⟩
  refine List.forall_mem_cons.mpr ⟨s_getf (idx := 34) (C := RX1) (T := TX1) (N := 7) rfl inX1 (by decide) q2_1 (by decide +kernel) rfl, ?_⟩
  refine List.forall_mem_cons.mpr ⟨s_putf (idx := 41) (C := RX1) (T := TX1) (N := 7) rfl inX1 tyX1_ok nmX1 (by decide) rfl (tyX1_ok 6 (by decide)) (Or.inl ⟨rfl, kdI 1 6 (by decide)⟩) q2_3 (by decide +kernel) rfl, ?_⟩
  refine List.forall_mem_cons.mpr ⟨s_iload (by decide +kernel) rfl, ?_⟩
  refine List.forall_mem_cons.mpr ⟨s_iret rfl (by decide +kernel), ?_⟩
  exact fun q hq => absurd hq List.not_mem_nil
def T_X1_forgetOldest : List (Nat × zO) := [(0, o_aload 1 0), (1, o_const 3 39), (3, o_putf 6 1 5), (6, o_aload 7 0), (7, o_getf 10 1 1), (10, o_const 11 1), (11, o_aload 12 0), (12, o_getf 15 1 1), (15, o_const 16 0), (16, o_aload 17 0), (17, o_getf 20 1 5), (20, o_acopy 23), (23, o_aload 24 0), (24, o_getf 27 1 2), (27, o_const 28 1), (28, o_aload 29 0), (29, o_getf 32 1 2), (32, o_const 33 0), (33, o_aload 34 0), (34, o_getf 37 1 5), (37, o_acopy 40), (40, o_aload 41 0), (41, o_getf 44 1 3), (44, o_const 45 1), (45, o_aload 46 0), (46, o_getf 49 1 3), (49, o_const 50 0), (50, o_aload 51 0), (51, o_getf 54 1 5), (54, o_acopy 57), (57, o_aload 58 0), (58, o_getf 61 1 4), (61, o_const 62 1), (62, o_aload 63 0), (63, o_getf 66 1 4), (66, o_const 67 0), (67, o_aload 68 0), (68, o_getf 71 1 5), (71, o_acopy 74), (74, o_vret)]
set_option maxRecDepth 20000 in
theorem t_X1_forgetOldest : ∀ q ∈ T_X1_forgetOldest, zS k_X1_forgetOldest q.1 q.2 := by
  unfold T_X1_forgetOldest
  refine List.forall_mem_cons.mpr ⟨s_aload_n (j := 0) (by decide +kernel) rfl rfl, ?_⟩
  refine List.forall_mem_cons.mpr ⟨s_bipush (by decide +kernel) (by decide) rfl, ?_⟩
  refine List.forall_mem_cons.mpr ⟨s_putf (idx := 34) (C := RX1) (T := TX1) (N := 7) rfl inX1 tyX1_ok nmX1 (by decide) rfl (tyX1_ok 5 (by decide)) (Or.inl ⟨rfl, kdI 1 5 (by decide)⟩) q2_1 (by decide +kernel) rfl, ?_⟩
  refine List.forall_mem_cons.mpr ⟨s_aload_n (j := 0) (by decide +kernel) rfl rfl, ?_⟩
  refine List.forall_mem_cons.mpr ⟨s_getf (idx := 9) (C := RX1) (T := TX1) (N := 7) rfl inX1 (by decide) q1_237 (by decide +kernel) rfl, ?_⟩
  refine List.forall_mem_cons.mpr ⟨s_iconst (by decide +kernel) rfl, ?_⟩
  refine List.forall_mem_cons.mpr ⟨s_aload_n (j := 0) (by decide +kernel) rfl rfl, ?_⟩
  refine List.forall_mem_cons.mpr ⟨s_getf (idx := 9) (C := RX1) (T := TX1) (N := 7) rfl inX1 (by decide) q1_237 (by decide +kernel) rfl, ?_⟩
  refine List.forall_mem_cons.mpr ⟨s_iconst (by decide +kernel) rfl, ?_⟩
  refine List.forall_mem_cons.mpr ⟨s_aload_n (j := 0) (by decide +kernel) rfl rfl, ?_⟩
  refine List.forall_mem_cons.mpr ⟨s_getf (idx := 34) (C := RX1) (T := TX1) (N := 7) rfl inX1 (by decide) q2_1 (by decide +kernel) rfl, ?_⟩
  refine List.forall_mem_cons.mpr ⟨s_acopy (idx := 44) q2_208 q2_138 q2_137 q1_11 (by decide +kernel) rfl, ?_⟩
  refine List.forall_mem_cons.mpr ⟨s_aload_n (j := 0) (by decide +kernel) rfl rfl, ?_⟩
  refine List.forall_mem_cons.mpr ⟨s_getf (idx := 15) (C := RX1) (T := TX1) (N := 7) rfl inX1 (by decide) q1_238 (by decide +kernel) rfl, ?_⟩
  refine List.forall_mem_cons.mpr ⟨s_iconst (by decide +kernel) rfl, ?_⟩
  refine List.forall_mem_cons.mpr ⟨s_aload_n (j := 0) (by decide +kernel) rfl rfl, ?_⟩
  refine List.forall_mem_cons.mpr ⟨s_getf (idx := 15) (C := RX1) (T := TX1) (N := 7) rfl inX1 (by decide) q1_238 (by decide +kernel) rfl, ?_⟩
  refine List.forall_mem_cons.mpr ⟨s_iconst (by decide +kernel) rfl, ?_⟩
  refine List.forall_mem_cons.mpr ⟨s_aload_n (j := 0) (by decide +kernel) rfl rfl, ?_⟩
  refine List.forall_mem_cons.mpr ⟨s_getf (idx := 34) (C := RX1) (T := TX1) (N := 7) rfl inX1 (by decide) q2_1 (by decide +kernel) rfl, ?_⟩
  refine List.forall_mem_cons.mpr ⟨s_acopy (idx := 44) q2_208 q2_138 q2_137 q1_11 (by decide +kernel) rfl, ?_⟩
  refine List.forall_mem_cons.mpr ⟨s_aload_n (j := 0) (by decide +kernel) rfl rfl, ?_⟩
  refine List.forall_mem_cons.mpr ⟨s_getf (idx := 18) (C := RX1) (T := TX1) (N := 7) rfl inX1 (by decide) q1_239 (by decide +kernel) rfl, ?_⟩
  refine List.forall_mem_cons.mpr ⟨s_iconst (by decide +kernel) rfl, ?_⟩
  refine List.forall_mem_cons.mpr ⟨s_aload_n (j := 0) (by decide +kernel) rfl rfl, ?_⟩
  refine List.forall_mem_cons.mpr ⟨s_getf (idx := 18) (C := RX1) (T := TX1) (N := 7) rfl inX1 (by decide) q1_239 (by decide +kernel) rfl, ?_⟩
  refine List.forall_mem_cons.mpr ⟨s_iconst (by decide +kernel) rfl, ?_⟩
  refine List.forall_mem_cons.mpr ⟨s_aload_n (j := 0) (by decide +kernel) rfl rfl, ?_⟩
  refine List.forall_mem_cons.mpr ⟨s_getf (idx := 34) (C := RX1) (T := TX1) (N := 7) rfl inX1 (by decide) q2_1 (by decide +kernel) rfl, ?_⟩
  refine List.forall_mem_cons.mpr ⟨s_acopy (idx := 44) q2_208 q2_138 q2_137 q1_11 (by decide +kernel) rfl, ?_⟩
  refine List.forall_mem_cons.mpr ⟨s_aload_n (j := 0) (by decide +kernel) rfl rfl, ?_⟩
  refine List.forall_mem_cons.mpr ⟨s_getf (idx := 21) (C := RX1) (T := TX1) (N := 7) rfl inX1 (by decide) q2_0 (by decide +kernel) rfl, ?_⟩
  refine List.forall_mem_cons.mpr ⟨s_iconst (by decide +kernel) rfl, ?_⟩
  refine List.forall_mem_cons.mpr ⟨s_aload_n (j := 0) (by decide +kernel) rfl rfl, ?_⟩
  refine List.forall_mem_cons.mpr ⟨s_getf (idx := 21) (C := RX1) (T := TX1) (N := 7) rfl inX1 (by decide) q2_0 (by decide +kernel) rfl, ?_⟩
  refine List.forall_mem_cons.mpr ⟨s_iconst (by decide +kernel) rfl, ?_⟩
  refine List.forall_mem_cons.mpr ⟨s_aload_n (j := 0) (by decide +kernel) rfl rfl, ?_⟩
  refine List.forall_mem_cons.mpr ⟨s_getf (idx := 34) (C := RX1) (T := TX1) (N := 7) rfl inX1 (by decide) q2_1 (by decide +kernel) rfl, ?_⟩
  refine List.forall_mem_cons.mpr ⟨s_acopy (idx := 44) q2_208 q2_138 q2_137 q1_11 (by decide +kernel) rfl, ?_⟩
  refine List.forall_mem_cons.mpr ⟨s_vret rfl (by decide +kernel), ?_⟩
  exact fun q hq => absurd hq List.not_mem_nil
def T_X1_back : List (Nat × zO) := [(0, o_aload 1 0), (1, o_getf 4 1 5), (4, o_if_ne 9 7), (7, o_const 8 0), (8, o_zret), (9, o_aload 10 0), (10, o_dup 11), (11, o_getf 14 1 5), (14, o_const 15 1), (15, o_isub 16), (16, o_putf 19 1 5), (19, o_aload 20 0), (20, o_getf 23 1 0), (23, o_aload 24 0), (24, o_getf 27 1 1), (27, o_aload 28 0), (28, o_getf 31 1 5), (31, o_iald 32), (32, o_callv 1 2 k_X2_rowOf 35), (35, o_aload 36 0), (36, o_getf 39 1 2), (39, o_aload 40 0), (40, o_getf 43 1 5), (43, o_iald 44), (44, o_aload 45 0), (45, o_getf 48 1 3), (48, o_aload 49 0), (49, o_getf 52 1 5), (52, o_iald 53), (53, o_iast 54), (54, o_const 55 1), (55, o_zret)]
set_option maxRecDepth 20000 in
theorem t_X1_back : ∀ q ∈ T_X1_back, zS k_X1_back q.1 q.2 := by
  unfold T_X1_back
  refine List.forall_mem_cons.mpr ⟨s_aload_n (j := 0) (by decide +kernel) rfl rfl, ?_⟩
  refine List.forall_mem_cons.mpr ⟨s_getf (idx := 34) (C := RX1) (T := TX1) (N := 7) rfl inX1 (by decide) q2_1 (by decide +kernel) rfl, ?_⟩
  refine List.forall_mem_cons.mpr ⟨s_if_ne (off := 5) (by decide +kernel) (by decide) rfl, ?_⟩
  refine List.forall_mem_cons.mpr ⟨s_iconst (by decide +kernel) rfl, ?_⟩
  refine List.forall_mem_cons.mpr ⟨s_zret rfl (by decide +kernel), ?_⟩
  refine List.forall_mem_cons.mpr ⟨s_aload_n (j := 0) (by decide +kernel) rfl rfl, ?_⟩
  refine List.forall_mem_cons.mpr ⟨s_dup (by decide +kernel) rfl, ?_⟩
  refine List.forall_mem_cons.mpr ⟨s_getf (idx := 34) (C := RX1) (T := TX1) (N := 7) rfl inX1 (by decide) q2_1 (by decide +kernel) rfl, ?_⟩
  refine List.forall_mem_cons.mpr ⟨s_iconst (by decide +kernel) rfl, ?_⟩
  refine List.forall_mem_cons.mpr ⟨s_isub (by decide +kernel) rfl, ?_⟩
  refine List.forall_mem_cons.mpr ⟨s_putf (idx := 34) (C := RX1) (T := TX1) (N := 7) rfl inX1 tyX1_ok nmX1 (by decide) rfl (tyX1_ok 5 (by decide)) (Or.inl ⟨rfl, kdI 1 5 (by decide)⟩) q2_1 (by decide +kernel) rfl, ?_⟩
  refine List.forall_mem_cons.mpr ⟨s_aload_n (j := 0) (by decide +kernel) rfl rfl, ?_⟩
  refine List.forall_mem_cons.mpr ⟨s_getf (idx := 24) (C := RX1) (T := TX1) (N := 7) rfl inX1 (by decide) q1_236 (by decide +kernel) rfl, ?_⟩
  refine List.forall_mem_cons.mpr ⟨s_aload_n (j := 0) (by decide +kernel) rfl rfl, ?_⟩
  refine List.forall_mem_cons.mpr ⟨s_getf (idx := 9) (C := RX1) (T := TX1) (N := 7) rfl inX1 (by decide) q1_237 (by decide +kernel) rfl, ?_⟩
  refine List.forall_mem_cons.mpr ⟨s_aload_n (j := 0) (by decide +kernel) rfl rfl, ?_⟩
  refine List.forall_mem_cons.mpr ⟨s_getf (idx := 34) (C := RX1) (T := TX1) (N := 7) rfl inX1 (by decide) q2_1 (by decide +kernel) rfl, ?_⟩
  refine List.forall_mem_cons.mpr ⟨s_iald (by decide +kernel) rfl, ?_⟩
  refine List.forall_mem_cons.mpr ⟨s_callv (idx := 28) (k' := k_X2_rowOf) (T := TX2) (N := 20) rfl q2_203 q2_200 q2_201 q2_202 q1_3 de_X2_rowOf (by decide) (by decide +kernel) rfl, ?_⟩
  refine List.forall_mem_cons.mpr ⟨s_aload_n (j := 0) (by decide +kernel) rfl rfl, ?_⟩
  refine List.forall_mem_cons.mpr ⟨s_getf (idx := 15) (C := RX1) (T := TX1) (N := 7) rfl inX1 (by decide) q1_238 (by decide +kernel) rfl, ?_⟩
  refine List.forall_mem_cons.mpr ⟨s_aload_n (j := 0) (by decide +kernel) rfl rfl, ?_⟩
  refine List.forall_mem_cons.mpr ⟨s_getf (idx := 34) (C := RX1) (T := TX1) (N := 7) rfl inX1 (by decide) q2_1 (by decide +kernel) rfl, ?_⟩
  refine List.forall_mem_cons.mpr ⟨s_iald (by decide +kernel) rfl, ?_⟩
  refine List.forall_mem_cons.mpr ⟨s_aload_n (j := 0) (by decide +kernel) rfl rfl, ?_⟩
  refine List.forall_mem_cons.mpr ⟨s_getf (idx := 18) (C := RX1) (T := TX1) (N := 7) rfl inX1 (by decide) q1_239 (by decide +kernel) rfl, ?_⟩
  refine List.forall_mem_cons.mpr ⟨s_aload_n (j := 0) (by decide +kernel) rfl rfl, ?_⟩
  refine List.forall_mem_cons.mpr ⟨s_getf (idx := 34) (C := RX1) (T := TX1) (N := 7) rfl inX1 (by decide) q2_1 (by decide +kernel) rfl, ?_⟩
  refine List.forall_mem_cons.mpr ⟨s_iald (by decide +kernel) rfl, ?_⟩
  refine List.forall_mem_cons.mpr ⟨s_iast (by decide +kernel) rfl, ?_⟩
  refine List.forall_mem_cons.mpr ⟨s_iconst (by decide +kernel) rfl, ?_⟩
  refine List.forall_mem_cons.mpr ⟨s_zret rfl (by decide +kernel), ?_⟩
  exact fun q hq => absurd hq List.not_mem_nil
def T_X1_again : List (Nat × zO) := [(0, o_aload 1 0), (1, o_getf 4 1 5), (4, o_aload 5 0), (5, o_getf 8 1 6), (8, o_icmp_ne 13 11), (11, o_const 12 0), (12, o_zret), (13, o_aload 14 0), (14, o_getf 17 1 0), (17, o_aload 18 0), (18, o_getf 21 1 1), (21, o_aload 22 0), (22, o_getf 25 1 5), (25, o_iald 26), (26, o_callv 1 2 k_X2_rowOf 29), (29, o_aload 30 0), (30, o_getf 33 1 2), (33, o_aload 34 0), (34, o_getf 37 1 5), (37, o_iald 38), (38, o_aload 39 0), (39, o_getf 42 1 4), (42, o_aload 43 0), (43, o_getf 46 1 5), (46, o_iald 47), (47, o_iast 48), (48, o_aload 49 0), (49, o_dup 50), (50, o_getf 53 1 5), (53, o_const 54 1), (54, o_iadd 55), (55, o_putf 58 1 5), (58, o_const 59 1), (59, o_zret)]
set_option maxRecDepth 20000 in
theorem t_X1_again : ∀ q ∈ T_X1_again, zS k_X1_again q.1 q.2 := by
  unfold T_X1_again
  refine List.forall_mem_cons.mpr ⟨s_aload_n (j := 0) (by decide +kernel) rfl rfl, ?_⟩
  refine List.forall_mem_cons.mpr ⟨s_getf (idx := 34) (C := RX1) (T := TX1) (N := 7) rfl inX1 (by decide) q2_1 (by decide +kernel) rfl, ?_⟩
  refine List.forall_mem_cons.mpr ⟨s_aload_n (j := 0) (by decide +kernel) rfl rfl, ?_⟩
  refine List.forall_mem_cons.mpr ⟨s_getf (idx := 41) (C := RX1) (T := TX1) (N := 7) rfl inX1 (by decide) q2_3 (by decide +kernel) rfl, ?_⟩
  refine List.forall_mem_cons.mpr ⟨s_icmp_ne (off := 5) (by decide +kernel) (by decide) rfl, ?_⟩
  refine List.forall_mem_cons.mpr ⟨s_iconst (by decide +kernel) rfl, ?_⟩
  refine List.forall_mem_cons.mpr ⟨s_zret rfl (by decide +kernel), ?_⟩
  refine List.forall_mem_cons.mpr ⟨s_aload_n (j := 0) (by decide +kernel) rfl rfl, ?_⟩
  refine List.forall_mem_cons.mpr ⟨s_getf (idx := 24) (C := RX1) (T := TX1) (N := 7) rfl inX1 (by decide) q1_236 (by decide +kernel) rfl, ?_⟩
  refine List.forall_mem_cons.mpr ⟨s_aload_n (j := 0) (by decide +kernel) rfl rfl, ?_⟩
  refine List.forall_mem_cons.mpr ⟨s_getf (idx := 9) (C := RX1) (T := TX1) (N := 7) rfl inX1 (by decide) q1_237 (by decide +kernel) rfl, ?_⟩
  refine List.forall_mem_cons.mpr ⟨s_aload_n (j := 0) (by decide +kernel) rfl rfl, ?_⟩
  refine List.forall_mem_cons.mpr ⟨s_getf (idx := 34) (C := RX1) (T := TX1) (N := 7) rfl inX1 (by decide) q2_1 (by decide +kernel) rfl, ?_⟩
  refine List.forall_mem_cons.mpr ⟨s_iald (by decide +kernel) rfl, ?_⟩
  refine List.forall_mem_cons.mpr ⟨s_callv (idx := 28) (k' := k_X2_rowOf) (T := TX2) (N := 20) rfl q2_203 q2_200 q2_201 q2_202 q1_3 de_X2_rowOf (by decide) (by decide +kernel) rfl, ?_⟩
  refine List.forall_mem_cons.mpr ⟨s_aload_n (j := 0) (by decide +kernel) rfl rfl, ?_⟩
  refine List.forall_mem_cons.mpr ⟨s_getf (idx := 15) (C := RX1) (T := TX1) (N := 7) rfl inX1 (by decide) q1_238 (by decide +kernel) rfl, ?_⟩
  refine List.forall_mem_cons.mpr ⟨s_aload_n (j := 0) (by decide +kernel) rfl rfl, ?_⟩
  refine List.forall_mem_cons.mpr ⟨s_getf (idx := 34) (C := RX1) (T := TX1) (N := 7) rfl inX1 (by decide) q2_1 (by decide +kernel) rfl, ?_⟩
  refine List.forall_mem_cons.mpr ⟨s_iald (by decide +kernel) rfl, ?_⟩
  refine List.forall_mem_cons.mpr ⟨s_aload_n (j := 0) (by decide +kernel) rfl rfl, ?_⟩
  refine List.forall_mem_cons.mpr ⟨s_getf (idx := 21) (C := RX1) (T := TX1) (N := 7) rfl inX1 (by decide) q2_0 (by decide +kernel) rfl, ?_⟩
  refine List.forall_mem_cons.mpr ⟨s_aload_n (j := 0) (by decide +kernel) rfl rfl, ?_⟩
  refine List.forall_mem_cons.mpr ⟨s_getf (idx := 34) (C := RX1) (T := TX1) (N := 7) rfl inX1 (by decide) q2_1 (by decide +kernel) rfl, ?_⟩
  refine List.forall_mem_cons.mpr ⟨s_iald (by decide +kernel) rfl, ?_⟩
  refine List.forall_mem_cons.mpr ⟨s_iast (by decide +kernel) rfl, ?_⟩
  refine List.forall_mem_cons.mpr ⟨s_aload_n (j := 0) (by decide +kernel) rfl rfl, ?_⟩
  refine List.forall_mem_cons.mpr ⟨s_dup (by decide +kernel) rfl, ?_⟩
  refine List.forall_mem_cons.mpr ⟨s_getf (idx := 34) (C := RX1) (T := TX1) (N := 7) rfl inX1 (by decide) q2_1 (by decide +kernel) rfl, ?_⟩
  refine List.forall_mem_cons.mpr ⟨s_iconst (by decide +kernel) rfl, ?_⟩
  refine List.forall_mem_cons.mpr ⟨s_iadd (by decide +kernel) rfl, ?_⟩
  refine List.forall_mem_cons.mpr ⟨s_putf (idx := 34) (C := RX1) (T := TX1) (N := 7) rfl inX1 tyX1_ok nmX1 (by decide) rfl (tyX1_ok 5 (by decide)) (Or.inl ⟨rfl, kdI 1 5 (by decide)⟩) q2_1 (by decide +kernel) rfl, ?_⟩
  refine List.forall_mem_cons.mpr ⟨s_iconst (by decide +kernel) rfl, ?_⟩
  refine List.forall_mem_cons.mpr ⟨s_zret rfl (by decide +kernel), ?_⟩
  exact fun q hq => absurd hq List.not_mem_nil
def T_X2_addTide : List (Nat × zO) := [(0, o_aload 1 1), (1, o_const 2 0), (2, o_aload 3 0), (3, o_getf 6 2 2), (6, o_const 8 12), (8, o_aload 9 0), (9, o_getf 12 2 0), (12, o_imul 13), (13, o_iload 14 3), (14, o_acopy 17), (17, o_aload 18 2), (18, o_const 19 0), (19, o_aload 20 0), (20, o_getf 23 2 3), (23, o_const 25 12), (25, o_aload 26 0), (26, o_getf 29 2 0), (29, o_imul 30), (30, o_iload 31 3), (31, o_acopy 34), (34, o_aload 35 0), (35, o_getf 38 2 1), (38, o_aload 39 0), (39, o_getf 42 2 0), (42, o_iload 43 3), (43, o_iast 44), (44, o_aload 45 0), (45, o_dup 46), (46, o_getf 49 2 0), (49, o_const 50 1), (50, o_iadd 51), (51, o_putf 54 2 0), (54, o_aload 55 0), (55, o_getf 58 2 0), (58, o_const 59 1), (59, o_isub 60), (60, o_iret)]
set_option maxRecDepth 20000 in
theorem t_X2_addTide : ∀ q ∈ T_X2_addTide, zS k_X2_addTide q.1 q.2 := by
  unfold T_X2_addTide
  refine List.forall_mem_cons.mpr ⟨s_aload_n (j := 1) (by decide +kernel) rfl rfl, ?_⟩
  refine List.forall_mem_cons.mpr ⟨s_iconst (by decide +kernel) rfl, ?_⟩
  refine List.forall_mem_cons.mpr ⟨s_aload_n (j := 0) (by decide +kernel) rfl rfl, ?_⟩
  refine List.forall_mem_cons.mpr ⟨s_getf (idx := 15) (C := RX2) (T := TX2) (N := 20) rfl inX2 (by decide) q1_61 (by decide +kernel) rfl, ?_⟩
  refine List.forall_mem_cons.mpr ⟨s_bipush (by decide +kernel) (by decide) rfl, ?_⟩
  refine List.forall_mem_cons.mpr ⟨s_aload_n (j := 0) (by decide +kernel) rfl rfl, ?_⟩
  refine List.forall_mem_cons.mpr ⟨s_getf (idx := 61) (C := RX2) (T := TX2) (N := 20) rfl inX2 (by decide) q1_58 (by decide +kernel) rfl, ?_⟩
  refine List.forall_mem_cons.mpr ⟨s_imul (by decide +kernel) rfl, ?_⟩
  refine List.forall_mem_cons.mpr ⟨s_iload_n (j := 3) (by decide +kernel) rfl rfl, ?_⟩
  refine List.forall_mem_cons.mpr ⟨s_acopy (idx := 64) q2_136 q2_138 q2_137 q1_11 (by decide +kernel) rfl, ?_⟩
  refine List.forall_mem_cons.mpr ⟨s_aload_n (j := 2) (by decide +kernel) rfl rfl, ?_⟩
  refine List.forall_mem_cons.mpr ⟨s_iconst (by decide +kernel) rfl, ?_⟩
  refine List.forall_mem_cons.mpr ⟨s_aload_n (j := 0) (by decide +kernel) rfl rfl, ?_⟩
  refine List.forall_mem_cons.mpr ⟨s_getf (idx := 18) (C := RX2) (T := TX2) (N := 20) rfl inX2 (by decide) q1_62 (by decide +kernel) rfl, ?_⟩
  refine List.forall_mem_cons.mpr ⟨s_bipush (by decide +kernel) (by decide) rfl, ?_⟩
  refine List.forall_mem_cons.mpr ⟨s_aload_n (j := 0) (by decide +kernel) rfl rfl, ?_⟩
  refine List.forall_mem_cons.mpr ⟨s_getf (idx := 61) (C := RX2) (T := TX2) (N := 20) rfl inX2 (by decide) q1_58 (by decide +kernel) rfl, ?_⟩
  refine List.forall_mem_cons.mpr ⟨s_imul (by decide +kernel) rfl, ?_⟩
  refine List.forall_mem_cons.mpr ⟨s_iload_n (j := 3) (by decide +kernel) rfl rfl, ?_⟩
  refine List.forall_mem_cons.mpr ⟨s_acopy (idx := 64) q2_136 q2_138 q2_137 q1_11 (by decide +kernel) rfl, ?_⟩
  refine List.forall_mem_cons.mpr ⟨s_aload_n (j := 0) (by decide +kernel) rfl rfl, ?_⟩
  refine List.forall_mem_cons.mpr ⟨s_getf (idx := 9) (C := RX2) (T := TX2) (N := 20) rfl inX2 (by decide) q1_60 (by decide +kernel) rfl, ?_⟩
  refine List.forall_mem_cons.mpr ⟨s_aload_n (j := 0) (by decide +kernel) rfl rfl, ?_⟩
  refine List.forall_mem_cons.mpr ⟨s_getf (idx := 61) (C := RX2) (T := TX2) (N := 20) rfl inX2 (by decide) q1_58 (by decide +kernel) rfl, ?_⟩
  refine List.forall_mem_cons.mpr ⟨s_iload_n (j := 3) (by decide +kernel) rfl rfl, ?_⟩
  refine List.forall_mem_cons.mpr ⟨s_iast (by decide +kernel) rfl, ?_⟩
  refine List.forall_mem_cons.mpr ⟨s_aload_n (j := 0) (by decide +kernel) rfl rfl, ?_⟩
  refine List.forall_mem_cons.mpr ⟨s_dup (by decide +kernel) rfl, ?_⟩
  refine List.forall_mem_cons.mpr ⟨s_getf (idx := 61) (C := RX2) (T := TX2) (N := 20) rfl inX2 (by decide) q1_58 (by decide +kernel) rfl, ?_⟩
  refine List.forall_mem_cons.mpr ⟨s_iconst (by decide +kernel) rfl, ?_⟩
  refine List.forall_mem_cons.mpr ⟨s_iadd (by decide +kernel) rfl, ?_⟩
  refine List.forall_mem_cons.mpr ⟨s_putf (idx := 61) (C := RX2) (T := TX2) (N := 20) rfl inX2 tyX2_ok nmX2 (by decide) rfl (tyX2_ok 0 (by decide)) (Or.inl ⟨rfl, kdI 2 0 (by decide)⟩) q1_58 (by decide +kernel) rfl, ?_⟩
  refine List.forall_mem_cons.mpr ⟨s_aload_n (j := 0) (by decide +kernel) rfl rfl, ?_⟩
  refine List.forall_mem_cons.mpr ⟨s_getf (idx := 61) (C := RX2) (T := TX2) (N := 20) rfl inX2 (by decide) q1_58 (by decide +kernel) rfl, ?_⟩
  refine List.forall_mem_cons.mpr ⟨s_iconst (by decide +kernel) rfl, ?_⟩
  refine List.forall_mem_cons.mpr ⟨s_isub (by decide +kernel) rfl, ?_⟩
  refine List.forall_mem_cons.mpr ⟨s_iret rfl (by decide +kernel), ?_⟩
  exact fun q hq => absurd hq List.not_mem_nil
def T_X2_addWind : List (Nat × zO) := [(0, o_aload 1 0), (1, o_getf 4 2 5), (4, o_aload 5 0), (5, o_getf 8 2 4), (8, o_iload 9 1), (9, o_iast 10), (10, o_aload 11 0), (11, o_getf 14 2 6), (14, o_aload 15 0), (15, o_getf 18 2 4), (18, o_iload 19 2), (19, o_iast 20), (20, o_aload 21 0), (21, o_getf 24 2 7), (24, o_aload 25 0), (25, o_getf 28 2 4), (28, o_iload 29 3), (29, o_iast 30), (30, o_aload 31 0), (31, o_dup 32), (32, o_getf 35 2 4), (35, o_const 36 1), (36, o_iadd 37), (37, o_putf 40 2 4), (40, o_aload 41 0), (41, o_getf 44 2 4), (44, o_const 45 1), (45, o_isub 46), (46, o_iret)]
set_option maxRecDepth 20000 in
theorem t_X2_addWind : ∀ q ∈ T_X2_addWind, zS k_X2_addWind q.1 q.2 := by
  unfold T_X2_addWind
  refine List.forall_mem_cons.mpr ⟨s_aload_n (j := 0) (by decide +kernel) rfl rfl, ?_⟩
  refine List.forall_mem_cons.mpr ⟨s_getf (idx := 21) (C := RX2) (T := TX2) (N := 20) rfl inX2 (by decide) q1_66 (by decide +kernel) rfl, ?_⟩
  refine List.forall_mem_cons.mpr ⟨s_aload_n (j := 0) (by decide +kernel) rfl rfl, ?_⟩
  refine List.forall_mem_cons.mpr ⟨s_getf (idx := 58) (C := RX2) (T := TX2) (N := 20) rfl inX2 (by decide) q1_63 (by decide +kernel) rfl, ?_⟩
  refine List.forall_mem_cons.mpr ⟨s_iload_n (j := 1) (by decide +kernel) rfl rfl, ?_⟩
  refine List.forall_mem_cons.mpr ⟨s_iast (by decide +kernel) rfl, ?_⟩
  refine List.forall_mem_cons.mpr ⟨s_aload_n (j := 0) (by decide +kernel) rfl rfl, ?_⟩
  refine List.forall_mem_cons.mpr ⟨s_getf (idx := 24) (C := RX2) (T := TX2) (N := 20) rfl inX2 (by decide) q1_68 (by decide +kernel) rfl, ?_⟩
  refine List.forall_mem_cons.mpr ⟨s_aload_n (j := 0) (by decide +kernel) rfl rfl, ?_⟩
  refine List.forall_mem_cons.mpr ⟨s_getf (idx := 58) (C := RX2) (T := TX2) (N := 20) rfl inX2 (by decide) q1_63 (by decide +kernel) rfl, ?_⟩
  refine List.forall_mem_cons.mpr ⟨s_iload_n (j := 2) (by decide +kernel) rfl rfl, ?_⟩
  refine List.forall_mem_cons.mpr ⟨s_iast (by decide +kernel) rfl, ?_⟩
  refine List.forall_mem_cons.mpr ⟨s_aload_n (j := 0) (by decide +kernel) rfl rfl, ?_⟩
  refine List.forall_mem_cons.mpr ⟨s_getf (idx := 27) (C := RX2) (T := TX2) (N := 20) rfl inX2 (by decide) q1_70 (by decide +kernel) rfl, ?_⟩
  refine List.forall_mem_cons.mpr ⟨s_aload_n (j := 0) (by decide +kernel) rfl rfl, ?_⟩
  refine List.forall_mem_cons.mpr ⟨s_getf (idx := 58) (C := RX2) (T := TX2) (N := 20) rfl inX2 (by decide) q1_63 (by decide +kernel) rfl, ?_⟩
  refine List.forall_mem_cons.mpr ⟨s_iload_n (j := 3) (by decide +kernel) rfl rfl, ?_⟩
  refine List.forall_mem_cons.mpr ⟨s_iast (by decide +kernel) rfl, ?_⟩
  refine List.forall_mem_cons.mpr ⟨s_aload_n (j := 0) (by decide +kernel) rfl rfl, ?_⟩
  refine List.forall_mem_cons.mpr ⟨s_dup (by decide +kernel) rfl, ?_⟩
  refine List.forall_mem_cons.mpr ⟨s_getf (idx := 58) (C := RX2) (T := TX2) (N := 20) rfl inX2 (by decide) q1_63 (by decide +kernel) rfl, ?_⟩
  refine List.forall_mem_cons.mpr ⟨s_iconst (by decide +kernel) rfl, ?_⟩
  refine List.forall_mem_cons.mpr ⟨s_iadd (by decide +kernel) rfl, ?_⟩
  refine List.forall_mem_cons.mpr ⟨s_putf (idx := 58) (C := RX2) (T := TX2) (N := 20) rfl inX2 tyX2_ok nmX2 (by decide) rfl (tyX2_ok 4 (by decide)) (Or.inl ⟨rfl, kdI 2 4 (by decide)⟩) q1_63 (by decide +kernel) rfl, ?_⟩
  refine List.forall_mem_cons.mpr ⟨s_aload_n (j := 0) (by decide +kernel) rfl rfl, ?_⟩
  refine List.forall_mem_cons.mpr ⟨s_getf (idx := 58) (C := RX2) (T := TX2) (N := 20) rfl inX2 (by decide) q1_63 (by decide +kernel) rfl, ?_⟩
  refine List.forall_mem_cons.mpr ⟨s_iconst (by decide +kernel) rfl, ?_⟩
  refine List.forall_mem_cons.mpr ⟨s_isub (by decide +kernel) rfl, ?_⟩
  refine List.forall_mem_cons.mpr ⟨s_iret rfl (by decide +kernel), ?_⟩
  exact fun q hq => absurd hq List.not_mem_nil
def T_X2_addWay : List (Nat × zO) := [(0, o_aload 1 0), (1, o_getf 4 2 11), (4, o_aload 5 0), (5, o_getf 8 2 10), (8, o_iload 9 1), (9, o_iast 10), (10, o_aload 11 0), (11, o_getf 14 2 12), (14, o_aload 15 0), (15, o_getf 18 2 10), (18, o_iload 19 2), (19, o_iast 20), (20, o_aload 21 0), (21, o_getf 24 2 13), (24, o_aload 25 0), (25, o_getf 28 2 10), (28, o_iload 29 3), (29, o_iast 30), (30, o_aload 31 0), (31, o_getf 34 2 14), (34, o_aload 35 0), (35, o_getf 38 2 10), (38, o_iload 40 4), (40, o_iast 41), (41, o_aload 42 0), (42, o_getf 45 2 15), (45, o_aload 46 0), (46, o_getf 49 2 10), (49, o_const 50 0), (50, o_iast 51), (51, o_aload 52 0), (52, o_getf 55 2 16), (55, o_aload 56 0), (56, o_getf 59 2 10), (59, o_const 62 1439), (62, o_iast 63), (63, o_aload 64 0), (64, o_dup 65), (65, o_getf 68 2 10), (68, o_const 69 1), (69, o_iadd 70), (70, o_putf 73 2 10), (73, o_aload 74 0), (74, o_getf 77 2 10), (77, o_const 78 1), (78, o_isub 79), (79, o_iret)]
set_option maxRecDepth 20000 in
theorem t_X2_addWay : ∀ q ∈ T_X2_addWay, zS k_X2_addWay q.1 q.2 := by
  unfold T_X2_addWay
  refine List.forall_mem_cons.mpr ⟨s_aload_n (j := 0) (by decide +kernel) rfl rfl, ?_⟩
  refine List.forall_mem_cons.mpr ⟨s_getf (idx := 33) (C := RX2) (T := TX2) (N := 20) rfl inX2 (by decide) q1_81 (by decide +kernel) rfl, ?_⟩
  refine List.forall_mem_cons.mpr ⟨s_aload_n (j := 0) (by decide +kernel) rfl rfl, ?_⟩
  refine List.forall_mem_cons.mpr ⟨s_getf (idx := 70) (C := RX2) (T := TX2) (N := 20) rfl inX2 (by decide) q1_78 (by decide +kernel) rfl, ?_⟩
  refine List.forall_mem_cons.mpr ⟨s_iload_n (j := 1) (by decide +kernel) rfl rfl, ?_⟩
  refine List.forall_mem_cons.mpr ⟨s_iast (by decide +kernel) rfl, ?_⟩
  refine List.forall_mem_cons.mpr ⟨s_aload_n (j := 0) (by decide +kernel) rfl rfl, ?_⟩
  refine List.forall_mem_cons.mpr ⟨s_getf (idx := 36) (C := RX2) (T := TX2) (N := 20) rfl inX2 (by decide) q1_84 (by decide +kernel) rfl, ?_⟩
  refine List.forall_mem_cons.mpr ⟨s_aload_n (j := 0) (by decide +kernel) rfl rfl, ?_⟩
  refine List.forall_mem_cons.mpr ⟨s_getf (idx := 70) (C := RX2) (T := TX2) (N := 20) rfl inX2 (by decide) q1_78 (by decide +kernel) rfl, ?_⟩
  refine List.forall_mem_cons.mpr ⟨s_iload_n (j := 2) (by decide +kernel) rfl rfl, ?_⟩
  refine List.forall_mem_cons.mpr ⟨s_iast (by decide +kernel) rfl, ?_⟩
  refine List.forall_mem_cons.mpr ⟨s_aload_n (j := 0) (by decide +kernel) rfl rfl, ?_⟩
  refine List.forall_mem_cons.mpr ⟨s_getf (idx := 39) (C := RX2) (T := TX2) (N := 20) rfl inX2 (by decide) q1_87 (by decide +kernel) rfl, ?_⟩
  refine List.forall_mem_cons.mpr ⟨s_aload_n (j := 0) (by decide +kernel) rfl rfl, ?_⟩
  refine List.forall_mem_cons.mpr ⟨s_getf (idx := 70) (C := RX2) (T := TX2) (N := 20) rfl inX2 (by decide) q1_78 (by decide +kernel) rfl, ?_⟩
  refine List.forall_mem_cons.mpr ⟨s_iload_n (j := 3) (by decide +kernel) rfl rfl, ?_⟩
  refine List.forall_mem_cons.mpr ⟨s_iast (by decide +kernel) rfl, ?_⟩
  refine List.forall_mem_cons.mpr ⟨s_aload_n (j := 0) (by decide +kernel) rfl rfl, ?_⟩
  refine List.forall_mem_cons.mpr ⟨s_getf (idx := 42) (C := RX2) (T := TX2) (N := 20) rfl inX2 (by decide) q1_88 (by decide +kernel) rfl, ?_⟩
  refine List.forall_mem_cons.mpr ⟨s_aload_n (j := 0) (by decide +kernel) rfl rfl, ?_⟩
  refine List.forall_mem_cons.mpr ⟨s_getf (idx := 70) (C := RX2) (T := TX2) (N := 20) rfl inX2 (by decide) q1_78 (by decide +kernel) rfl, ?_⟩
  refine List.forall_mem_cons.mpr ⟨s_iload (by decide +kernel) rfl, ?_⟩
  refine List.forall_mem_cons.mpr ⟨s_iast (by decide +kernel) rfl, ?_⟩
  refine List.forall_mem_cons.mpr ⟨s_aload_n (j := 0) (by decide +kernel) rfl rfl, ?_⟩
  refine List.forall_mem_cons.mpr ⟨s_getf (idx := 45) (C := RX2) (T := TX2) (N := 20) rfl inX2 (by decide) q1_92 (by decide +kernel) rfl, ?_⟩
  refine List.forall_mem_cons.mpr ⟨s_aload_n (j := 0) (by decide +kernel) rfl rfl, ?_⟩
  refine List.forall_mem_cons.mpr ⟨s_getf (idx := 70) (C := RX2) (T := TX2) (N := 20) rfl inX2 (by decide) q1_78 (by decide +kernel) rfl, ?_⟩
  refine List.forall_mem_cons.mpr ⟨s_iconst (by decide +kernel) rfl, ?_⟩
  refine List.forall_mem_cons.mpr ⟨s_iast (by decide +kernel) rfl, ?_⟩
  refine List.forall_mem_cons.mpr ⟨s_aload_n (j := 0) (by decide +kernel) rfl rfl, ?_⟩
  refine List.forall_mem_cons.mpr ⟨s_getf (idx := 48) (C := RX2) (T := TX2) (N := 20) rfl inX2 (by decide) q1_96 (by decide +kernel) rfl, ?_⟩
  refine List.forall_mem_cons.mpr ⟨s_aload_n (j := 0) (by decide +kernel) rfl rfl, ?_⟩
  refine List.forall_mem_cons.mpr ⟨s_getf (idx := 70) (C := RX2) (T := TX2) (N := 20) rfl inX2 (by decide) q1_78 (by decide +kernel) rfl, ?_⟩
  refine List.forall_mem_cons.mpr ⟨s_sipush (by decide +kernel) (by decide) rfl, ?_⟩
  refine List.forall_mem_cons.mpr ⟨s_iast (by decide +kernel) rfl, ?_⟩
  refine List.forall_mem_cons.mpr ⟨s_aload_n (j := 0) (by decide +kernel) rfl rfl, ?_⟩
  refine List.forall_mem_cons.mpr ⟨s_dup (by decide +kernel) rfl, ?_⟩
  refine List.forall_mem_cons.mpr ⟨s_getf (idx := 70) (C := RX2) (T := TX2) (N := 20) rfl inX2 (by decide) q1_78 (by decide +kernel) rfl, ?_⟩
  refine List.forall_mem_cons.mpr ⟨s_iconst (by decide +kernel) rfl, ?_⟩
  refine List.forall_mem_cons.mpr ⟨s_iadd (by decide +kernel) rfl, ?_⟩
  refine List.forall_mem_cons.mpr ⟨s_putf (idx := 70) (C := RX2) (T := TX2) (N := 20) rfl inX2 tyX2_ok nmX2 (by decide) rfl (tyX2_ok 10 (by decide)) (Or.inl ⟨rfl, kdI 2 10 (by decide)⟩) q1_78 (by decide +kernel) rfl, ?_⟩
  refine List.forall_mem_cons.mpr ⟨s_aload_n (j := 0) (by decide +kernel) rfl rfl, ?_⟩
  refine List.forall_mem_cons.mpr ⟨s_getf (idx := 70) (C := RX2) (T := TX2) (N := 20) rfl inX2 (by decide) q1_78 (by decide +kernel) rfl, ?_⟩
  refine List.forall_mem_cons.mpr ⟨s_iconst (by decide +kernel) rfl, ?_⟩
  refine List.forall_mem_cons.mpr ⟨s_isub (by decide +kernel) rfl, ?_⟩
  refine List.forall_mem_cons.mpr ⟨s_iret rfl (by decide +kernel), ?_⟩
  exact fun q hq => absurd hq List.not_mem_nil
def T_X2_allWinds : List (Nat × zO) := [(0, o_const 1 1), (1, o_aload 2 0), (2, o_getf 5 2 4), (5, o_ishl 6), (6, o_const 7 1), (7, o_isub 8), (8, o_iret)]
set_option maxRecDepth 20000 in
theorem t_X2_allWinds : ∀ q ∈ T_X2_allWinds, zS k_X2_allWinds q.1 q.2 := by
  unfold T_X2_allWinds
  refine List.forall_mem_cons.mpr ⟨s_iconst (by decide +kernel) rfl, ?_⟩
  refine List.forall_mem_cons.mpr ⟨s_aload_n (j := 0) (by decide +kernel) rfl rfl, ?_⟩
  refine List.forall_mem_cons.mpr ⟨s_getf (idx := 58) (C := RX2) (T := TX2) (N := 20) rfl inX2 (by decide) q1_63 (by decide +kernel) rfl, ?_⟩
  refine List.forall_mem_cons.mpr ⟨s_ishl (by decide +kernel) rfl, ?_⟩
  refine List.forall_mem_cons.mpr ⟨s_iconst (by decide +kernel) rfl, ?_⟩
  refine List.forall_mem_cons.mpr ⟨s_isub (by decide +kernel) rfl, ?_⟩
  refine List.forall_mem_cons.mpr ⟨s_iret rfl (by decide +kernel), ?_⟩
  exact fun q hq => absurd hq List.not_mem_nil
def T_X2_chanceOf : List (Nat × zO) := [(0, o_const 1 0), (1, o_istore 2 2), (2, o_const 3 0), (3, o_istore 4 3), (4, o_iload 5 3), (5, o_aload 6 0), (6, o_getf 9 2 4), (9, o_icmp_ge 35 12), (12, o_iload 13 1), (13, o_iload 14 3), (14, o_iushr 15), (15, o_const 16 1), (16, o_iand 17), (17, o_if_eq 29 20), (20, o_iload 21 2), (21, o_aload 22 0), (22, o_getf 25 2 7), (25, o_iload 26 3), (26, o_iald 27), (27, o_iadd 28), (28, o_istore 29 2), (29, o_iinc 32 3 1), (32, o_goto 4), (35, o_iload 36 2), (36, o_iret)]
set_option maxRecDepth 20000 in
theorem t_X2_chanceOf : ∀ q ∈ T_X2_chanceOf, zS k_X2_chanceOf q.1 q.2 := by
  unfold T_X2_chanceOf
  refine List.forall_mem_cons.mpr ⟨s_iconst (by decide +kernel) rfl, ?_⟩
  refine List.forall_mem_cons.mpr ⟨s_istore_n (j := 2) (by decide +kernel) rfl (by decide) rfl, ?_⟩
  refine List.forall_mem_cons.mpr ⟨s_iconst (by decide +kernel) rfl, ?_⟩
  refine List.forall_mem_cons.mpr ⟨s_istore_n (j := 3) (by decide +kernel) rfl (by decide) rfl, ?_⟩
  refine List.forall_mem_cons.mpr ⟨s_iload_n (j := 3) (by decide +kernel) rfl rfl, ?_⟩
  refine List.forall_mem_cons.mpr ⟨s_aload_n (j := 0) (by decide +kernel) rfl rfl, ?_⟩
  refine List.forall_mem_cons.mpr ⟨s_getf (idx := 58) (C := RX2) (T := TX2) (N := 20) rfl inX2 (by decide) q1_63 (by decide +kernel) rfl, ?_⟩
  refine List.forall_mem_cons.mpr ⟨s_icmp_ge (off := 26) (by decide +kernel) (by decide) rfl, ?_⟩
  refine List.forall_mem_cons.mpr ⟨s_iload_n (j := 1) (by decide +kernel) rfl rfl, ?_⟩
  refine List.forall_mem_cons.mpr ⟨s_iload_n (j := 3) (by decide +kernel) rfl rfl, ?_⟩
  refine List.forall_mem_cons.mpr ⟨s_iushr (by decide +kernel) rfl, ?_⟩
  refine List.forall_mem_cons.mpr ⟨s_iconst (by decide +kernel) rfl, ?_⟩
  refine List.forall_mem_cons.mpr ⟨s_iand (by decide +kernel) rfl, ?_⟩
  refine List.forall_mem_cons.mpr ⟨s_if_eq (off := 12) (by decide +kernel) (by decide) rfl, ?_⟩
  refine List.forall_mem_cons.mpr ⟨s_iload_n (j := 2) (by decide +kernel) rfl rfl, ?_⟩
  refine List.forall_mem_cons.mpr ⟨s_aload_n (j := 0) (by decide +kernel) rfl rfl, ?_⟩
  refine List.forall_mem_cons.mpr ⟨s_getf (idx := 27) (C := RX2) (T := TX2) (N := 20) rfl inX2 (by decide) q1_70 (by decide +kernel) rfl, ?_⟩
  refine List.forall_mem_cons.mpr ⟨s_iload_n (j := 3) (by decide +kernel) rfl rfl, ?_⟩
  refine List.forall_mem_cons.mpr ⟨s_iald (by decide +kernel) rfl, ?_⟩
  refine List.forall_mem_cons.mpr ⟨s_iadd (by decide +kernel) rfl, ?_⟩
  refine List.forall_mem_cons.mpr ⟨s_istore_n (j := 2) (by decide +kernel) rfl (by decide) rfl, ?_⟩
  refine List.forall_mem_cons.mpr ⟨s_iinc (by decide +kernel) (by decide) rfl, ?_⟩
  refine List.forall_mem_cons.mpr ⟨s_goto (off := (-28)) (by decide +kernel) (by decide), ?_⟩
  refine List.forall_mem_cons.mpr ⟨s_iload_n (j := 2) (by decide +kernel) rfl rfl, ?_⟩
  refine List.forall_mem_cons.mpr ⟨s_iret rfl (by decide +kernel), ?_⟩
  exact fun q hq => absurd hq List.not_mem_nil
def T_X2_thousandths : List (Nat × zO) := [(0, o_aload 1 0), (1, o_iload 2 1), (2, o_callv 1 2 k_X2_chanceOf 5), (5, o_const 8 1000), (8, o_imul 9), (9, o_const 10 1), (10, o_aload 11 0), (11, o_aload 12 0), (12, o_callv 0 2 k_X2_allWinds 15), (15, o_callv 1 2 k_X2_chanceOf 18), (18, o_mmax 21), (21, o_idiv 22), (22, o_iret)]
set_option maxRecDepth 20000 in
theorem t_X2_thousandths : ∀ q ∈ T_X2_thousandths, zS k_X2_thousandths q.1 q.2 := by
  unfold T_X2_thousandths
  refine List.forall_mem_cons.mpr ⟨s_aload_n (j := 0) (by decide +kernel) rfl rfl, ?_⟩
  refine List.forall_mem_cons.mpr ⟨s_iload_n (j := 1) (by decide +kernel) rfl rfl, ?_⟩
  refine List.forall_mem_cons.mpr ⟨s_callv (idx := 73) (k' := k_X2_chanceOf) (T := TX2) (N := 20) rfl q3_105 q3_110 q3_103 q3_104 q1_3 de_X2_chanceOf (by decide) (by decide +kernel) rfl, ?_⟩
  refine List.forall_mem_cons.mpr ⟨s_sipush (by decide +kernel) (by decide) rfl, ?_⟩
  refine List.forall_mem_cons.mpr ⟨s_imul (by decide +kernel) rfl, ?_⟩
  refine List.forall_mem_cons.mpr ⟨s_iconst (by decide +kernel) rfl, ?_⟩
  refine List.forall_mem_cons.mpr ⟨s_aload_n (j := 0) (by decide +kernel) rfl rfl, ?_⟩
  refine List.forall_mem_cons.mpr ⟨s_aload_n (j := 0) (by decide +kernel) rfl rfl, ?_⟩
  refine List.forall_mem_cons.mpr ⟨s_callv (idx := 77) (k' := k_X2_allWinds) (T := TX2) (N := 20) rfl q3_11 q3_111 q3_9 q3_10 q1_3 de_X2_allWinds (by decide) (by decide +kernel) rfl, ?_⟩
  refine List.forall_mem_cons.mpr ⟨s_callv (idx := 73) (k' := k_X2_chanceOf) (T := TX2) (N := 20) rfl q3_105 q3_110 q3_103 q3_104 q1_3 de_X2_chanceOf (by decide) (by decide +kernel) rfl, ?_⟩
  refine List.forall_mem_cons.mpr ⟨s_mmax (idx := 81) q2_165 q2_166b q1_12b qmaxC (by decide +kernel) rfl, ?_⟩
  refine List.forall_mem_cons.mpr ⟨s_idiv (by decide +kernel) rfl, ?_⟩
  refine List.forall_mem_cons.mpr ⟨s_iret rfl (by decide +kernel), ?_⟩
  exact fun q hq => absurd hq List.not_mem_nil
def T_X2_taking : List (Nat × zO) := [(0, o_aload 1 0), (1, o_getf 4 2 13), (4, o_iload 5 1), (5, o_iald 6), (6, o_aload 7 0), (7, o_getf 10 2 17), (10, o_iload 11 2), (11, o_iald 12), (12, o_const 14 10), (14, o_iload 15 3), (15, o_imul 16), (16, o_iadd 17), (17, o_imul 18), (18, o_const 20 99), (20, o_iadd 21), (21, o_const 23 100), (23, o_idiv 24), (24, o_iret)]
set_option maxRecDepth 20000 in
theorem t_X2_taking : ∀ q ∈ T_X2_taking, zS k_X2_taking q.1 q.2 := by
  unfold T_X2_taking
  refine List.forall_mem_cons.mpr ⟨s_aload_n (j := 0) (by decide +kernel) rfl rfl, ?_⟩
  refine List.forall_mem_cons.mpr ⟨s_getf (idx := 39) (C := RX2) (T := TX2) (N := 20) rfl inX2 (by decide) q1_87 (by decide +kernel) rfl, ?_⟩
  refine List.forall_mem_cons.mpr ⟨s_iload_n (j := 1) (by decide +kernel) rfl rfl, ?_⟩
  refine List.forall_mem_cons.mpr ⟨s_iald (by decide +kernel) rfl, ?_⟩
  refine List.forall_mem_cons.mpr ⟨s_aload_n (j := 0) (by decide +kernel) rfl rfl, ?_⟩
  refine List.forall_mem_cons.mpr ⟨s_getf (idx := 51) (C := RX2) (T := TX2) (N := 20) rfl inX2 (by decide) q1_100 (by decide +kernel) rfl, ?_⟩
  refine List.forall_mem_cons.mpr ⟨s_iload_n (j := 2) (by decide +kernel) rfl rfl, ?_⟩
  refine List.forall_mem_cons.mpr ⟨s_iald (by decide +kernel) rfl, ?_⟩
  refine List.forall_mem_cons.mpr ⟨s_bipush (by decide +kernel) (by decide) rfl, ?_⟩
  refine List.forall_mem_cons.mpr ⟨s_iload_n (j := 3) (by decide +kernel) rfl rfl, ?_⟩
  refine List.forall_mem_cons.mpr ⟨s_imul (by decide +kernel) rfl, ?_⟩
  refine List.forall_mem_cons.mpr ⟨s_iadd (by decide +kernel) rfl, ?_⟩
  refine List.forall_mem_cons.mpr ⟨s_imul (by decide +kernel) rfl, ?_⟩
  refine List.forall_mem_cons.mpr ⟨s_bipush (by decide +kernel) (by decide) rfl, ?_⟩
  refine List.forall_mem_cons.mpr ⟨s_iadd (by decide +kernel) rfl, ?_⟩
  refine List.forall_mem_cons.mpr ⟨s_bipush (by decide +kernel) (by decide) rfl, ?_⟩
  refine List.forall_mem_cons.mpr ⟨s_idiv (by decide +kernel) rfl, ?_⟩
  refine List.forall_mem_cons.mpr ⟨s_iret rfl (by decide +kernel), ?_⟩
  exact fun q hq => absurd hq List.not_mem_nil
def T_X2_tideAt : List (Nat × zO) := [(0, o_const 2 12), (2, o_iload 3 1), (3, o_imul 4), (4, o_istore 5 3), (5, o_iload 6 3), (6, o_aload 7 0), (7, o_getf 10 2 1), (10, o_iload 11 1), (11, o_iald 12), (12, o_iadd 13), (13, o_istore 15 4), (15, o_iload 16 3), (16, o_istore 18 5), (18, o_iload 20 5), (20, o_iload 22 4), (22, o_icmp_ge 42 25), (25, o_aload 26 0), (26, o_getf 29 2 2), (29, o_iload 31 5), (31, o_iald 32), (32, o_iload 33 2), (33, o_icmp_ge 42 36), (36, o_iinc 39 5 1), (39, o_goto 18), (42, o_iload 44 5), (44, o_iload 45 3), (45, o_icmp_ne 55 48), (48, o_aload 49 0), (49, o_getf 52 2 3), (52, o_iload 53 3), (53, o_iald 54), (54, o_iret), (55, o_iload 57 5), (57, o_iload 59 4), (59, o_icmp_ne 72 62), (62, o_aload 63 0), (63, o_getf 66 2 3), (66, o_iload 68 4), (68, o_const 69 1), (69, o_isub 70), (70, o_iald 71), (71, o_iret), (72, o_const 73 1), (73, o_aload 74 0), (74, o_getf 77 2 2), (77, o_iload 79 5), (79, o_iald 80), (80, o_aload 81 0), (81, o_getf 84 2 2), (84, o_iload 86 5), (86, o_const 87 1), (87, o_isub 88), (88, o_iald 89), (89, o_isub 90), (90, o_mmax 93), (93, o_istore 95 6), (95, o_iload 96 2), (96, o_aload 97 0), (97, o_getf 100 2 2), (100, o_iload 102 5), (102, o_const 103 1), (103, o_isub 104), (104, o_iald 105), (105, o_isub 106), (106, o_istore 108 7), (108, o_aload 109 0), (109, o_getf 112 2 3), (112, o_iload 114 5), (114, o_const 115 1), (115, o_isub 116), (116, o_iald 117), (117, o_iload 119 6), (119, o_iload 121 7), (121, o_isub 122), (122, o_imul 123), (123, o_aload 124 0), (124, o_getf 127 2 3), (127, o_iload 129 5), (129, o_iald 130), (130, o_iload 132 7), (132, o_imul 133), (133, o_iadd 134), (134, o_iload 136 6), (136, o_idiv 137), (137, o_iret)]
set_option maxRecDepth 20000 in
theorem t_X2_tideAt : ∀ q ∈ T_X2_tideAt, zS k_X2_tideAt q.1 q.2 := by
  unfold T_X2_tideAt
  refine List.forall_mem_cons.mpr ⟨s_bipush (by decide +kernel) (by decide) rfl, ?_⟩
  refine List.forall_mem_cons.mpr ⟨s_iload_n (j := 1) (by decide +kernel) rfl rfl, ?_⟩
  refine List.forall_mem_cons.mpr ⟨s_imul (by decide +kernel) rfl, ?_⟩
  refine List.forall_mem_cons.mpr ⟨s_istore_n (j := 3) (by decide +kernel) rfl (by decide) rfl, ?_⟩
  refine List.forall_mem_cons.mpr ⟨s_iload_n (j := 3) (by decide +kernel) rfl rfl, ?_⟩
  refine List.forall_mem_cons.mpr ⟨s_aload_n (j := 0) (by decide +kernel) rfl rfl, ?_⟩
  refine List.forall_mem_cons.mpr ⟨s_getf (idx := 9) (C := RX2) (T := TX2) (N := 20) rfl inX2 (by decide) q1_60 (by decide +kernel) rfl, ?_⟩
  refine List.forall_mem_cons.mpr ⟨s_iload_n (j := 1) (by decide +kernel) rfl rfl, ?_⟩
  refine List.forall_mem_cons.mpr ⟨s_iald (by decide +kernel) rfl, ?_⟩
  refine List.forall_mem_cons.mpr ⟨s_iadd (by decide +kernel) rfl, ?_⟩
  refine List.forall_mem_cons.mpr ⟨s_istore (by decide +kernel) (by decide) rfl, ?_⟩
  refine List.forall_mem_cons.mpr ⟨s_iload_n (j := 3) (by decide +kernel) rfl rfl, ?_⟩
  refine List.forall_mem_cons.mpr ⟨s_istore (by decide +kernel) (by decide) rfl, ?_⟩
  refine List.forall_mem_cons.mpr ⟨s_iload (by decide +kernel) rfl, ?_⟩
  refine List.forall_mem_cons.mpr ⟨s_iload (by decide +kernel) rfl, ?_⟩
  refine List.forall_mem_cons.mpr ⟨s_icmp_ge (off := 20) (by decide +kernel) (by decide) rfl, ?_⟩
  refine List.forall_mem_cons.mpr ⟨s_aload_n (j := 0) (by decide +kernel) rfl rfl, ?_⟩
  refine List.forall_mem_cons.mpr ⟨s_getf (idx := 15) (C := RX2) (T := TX2) (N := 20) rfl inX2 (by decide) q1_61 (by decide +kernel) rfl, ?_⟩
  refine List.forall_mem_cons.mpr ⟨s_iload (by decide +kernel) rfl, ?_⟩
  refine List.forall_mem_cons.mpr ⟨s_iald (by decide +kernel) rfl, ?_⟩
  refine List.forall_mem_cons.mpr ⟨s_iload_n (j := 2) (by decide +kernel) rfl rfl, ?_⟩
  refine List.forall_mem_cons.mpr ⟨s_icmp_ge (off := 9) (by decide +kernel) (by decide) rfl, ?_⟩
  refine List.forall_mem_cons.mpr ⟨s_iinc (by decide +kernel) (by decide) rfl, ?_⟩
  refine List.forall_mem_cons.mpr ⟨s_goto (off := (-21)) (by decide +kernel) (by decide), ?_⟩
  refine List.forall_mem_cons.mpr ⟨s_iload (by decide +kernel) rfl, ?_⟩
  refine List.forall_mem_cons.mpr ⟨s_iload_n (j := 3) (by decide +kernel) rfl rfl, ?_⟩
  refine List.forall_mem_cons.mpr ⟨s_icmp_ne (off := 10) (by decide +kernel) (by decide) rfl, ?_⟩
  refine List.forall_mem_cons.mpr ⟨s_aload_n (j := 0) (by decide +kernel) rfl rfl, ?_⟩
  refine List.forall_mem_cons.mpr ⟨s_getf (idx := 18) (C := RX2) (T := TX2) (N := 20) rfl inX2 (by decide) q1_62 (by decide +kernel) rfl, ?_⟩
  refine List.forall_mem_cons.mpr ⟨s_iload_n (j := 3) (by decide +kernel) rfl rfl, ?_⟩
  refine List.forall_mem_cons.mpr ⟨s_iald (by decide +kernel) rfl, ?_⟩
  refine List.forall_mem_cons.mpr ⟨s_iret rfl (by decide +kernel), ?_⟩
  refine List.forall_mem_cons.mpr ⟨s_iload (by decide +kernel) rfl, ?_⟩
  refine List.forall_mem_cons.mpr ⟨s_iload (by decide +kernel) rfl, ?_⟩
  refine List.forall_mem_cons.mpr ⟨s_icmp_ne (off := 13) (by decide +kernel) (by decide) rfl, ?_⟩
  refine List.forall_mem_cons.mpr ⟨s_aload_n (j := 0) (by decide +kernel) rfl rfl, ?_⟩
  refine List.forall_mem_cons.mpr ⟨s_getf (idx := 18) (C := RX2) (T := TX2) (N := 20) rfl inX2 (by decide) q1_62 (by decide +kernel) rfl, ?_⟩
  refine List.forall_mem_cons.mpr ⟨s_iload (by decide +kernel) rfl, ?_⟩
  refine List.forall_mem_cons.mpr ⟨s_iconst (by decide +kernel) rfl, ?_⟩
  refine List.forall_mem_cons.mpr ⟨s_isub (by decide +kernel) rfl, ?_⟩
  refine List.forall_mem_cons.mpr ⟨s_iald (by decide +kernel) rfl, ?_⟩
  refine List.forall_mem_cons.mpr ⟨s_iret rfl (by decide +kernel), ?_⟩
  refine List.forall_mem_cons.mpr ⟨s_iconst (by decide +kernel) rfl, ?_⟩
  refine List.forall_mem_cons.mpr ⟨s_aload_n (j := 0) (by decide +kernel) rfl rfl, ?_⟩
  refine List.forall_mem_cons.mpr ⟨s_getf (idx := 15) (C := RX2) (T := TX2) (N := 20) rfl inX2 (by decide) q1_61 (by decide +kernel) rfl, ?_⟩
  refine List.forall_mem_cons.mpr ⟨s_iload (by decide +kernel) rfl, ?_⟩
  refine List.forall_mem_cons.mpr ⟨s_iald (by decide +kernel) rfl, ?_⟩
  refine List.forall_mem_cons.mpr ⟨s_aload_n (j := 0) (by decide +kernel) rfl rfl, ?_⟩
  refine List.forall_mem_cons.mpr ⟨s_getf (idx := 15) (C := RX2) (T := TX2) (N := 20) rfl inX2 (by decide) q1_61 (by decide +kernel) rfl, ?_⟩
  refine List.forall_mem_cons.mpr ⟨s_iload (by decide +kernel) rfl, ?_⟩
  refine List.forall_mem_cons.mpr ⟨s_iconst (by decide +kernel) rfl, ?_⟩
  refine List.forall_mem_cons.mpr ⟨s_isub (by decide +kernel) rfl, ?_⟩
  refine List.forall_mem_cons.mpr ⟨s_iald (by decide +kernel) rfl, ?_⟩
  refine List.forall_mem_cons.mpr ⟨s_isub (by decide +kernel) rfl, ?_⟩
  refine List.forall_mem_cons.mpr ⟨s_mmax (idx := 81) q2_165 q2_166b q1_12b qmaxC (by decide +kernel) rfl, ?_⟩
  refine List.forall_mem_cons.mpr ⟨s_istore (by decide +kernel) (by decide) rfl, ?_⟩
  refine List.forall_mem_cons.mpr ⟨s_iload_n (j := 2) (by decide +kernel) rfl rfl, ?_⟩
  refine List.forall_mem_cons.mpr ⟨s_aload_n (j := 0) (by decide +kernel) rfl rfl, ?_⟩
  refine List.forall_mem_cons.mpr ⟨s_getf (idx := 15) (C := RX2) (T := TX2) (N := 20) rfl inX2 (by decide) q1_61 (by decide +kernel) rfl, ?_⟩
  refine List.forall_mem_cons.mpr ⟨s_iload (by decide +kernel) rfl, ?_⟩
  refine List.forall_mem_cons.mpr ⟨s_iconst (by decide +kernel) rfl, ?_⟩
  refine List.forall_mem_cons.mpr ⟨s_isub (by decide +kernel) rfl, ?_⟩
  refine List.forall_mem_cons.mpr ⟨s_iald (by decide +kernel) rfl, ?_⟩
  refine List.forall_mem_cons.mpr ⟨s_isub (by decide +kernel) rfl, ?_⟩
  refine List.forall_mem_cons.mpr ⟨s_istore (by decide +kernel) (by decide) rfl, ?_⟩
  refine List.forall_mem_cons.mpr ⟨s_aload_n (j := 0) (by decide +kernel) rfl rfl, ?_⟩
  refine List.forall_mem_cons.mpr ⟨s_getf (idx := 18) (C := RX2) (T := TX2) (N := 20) rfl inX2 (by decide) q1_62 (by decide +kernel) rfl, ?_⟩
  refine List.forall_mem_cons.mpr ⟨s_iload (by decide +kernel) rfl, ?_⟩
  refine List.forall_mem_cons.mpr ⟨s_iconst (by decide +kernel) rfl, ?_⟩
  refine List.forall_mem_cons.mpr ⟨s_isub (by decide +kernel) rfl, ?_⟩
  refine List.forall_mem_cons.mpr ⟨s_iald (by decide +kernel) rfl, ?_⟩
  refine List.forall_mem_cons.mpr ⟨s_iload (by decide +kernel) rfl, ?_⟩
  refine List.forall_mem_cons.mpr ⟨s_iload (by decide +kernel) rfl, ?_⟩
  refine List.forall_mem_cons.mpr ⟨s_isub (by decide +kernel) rfl, ?_⟩
  refine List.forall_mem_cons.mpr ⟨s_imul (by decide +kernel) rfl, ?_⟩
  refine List.forall_mem_cons.mpr ⟨s_aload_n (j := 0) (by decide +kernel) rfl rfl, ?_⟩
  refine List.forall_mem_cons.mpr ⟨s_getf (idx := 18) (C := RX2) (T := TX2) (N := 20) rfl inX2 (by decide) q1_62 (by decide +kernel) rfl, ?_⟩
  refine List.forall_mem_cons.mpr ⟨s_iload (by decide +kernel) rfl, ?_⟩
  refine List.forall_mem_cons.mpr ⟨s_iald (by decide +kernel) rfl, ?_⟩
  refine List.forall_mem_cons.mpr ⟨s_iload (by decide +kernel) rfl, ?_⟩
  refine List.forall_mem_cons.mpr ⟨s_imul (by decide +kernel) rfl, ?_⟩
  refine List.forall_mem_cons.mpr ⟨s_iadd (by decide +kernel) rfl, ?_⟩
  refine List.forall_mem_cons.mpr ⟨s_iload (by decide +kernel) rfl, ?_⟩
  refine List.forall_mem_cons.mpr ⟨s_idiv (by decide +kernel) rfl, ?_⟩
  refine List.forall_mem_cons.mpr ⟨s_iret rfl (by decide +kernel), ?_⟩
  exact fun q hq => absurd hq List.not_mem_nil
def T_X2_seaAt : List (Nat × zO) := [(0, o_const 1 0), (1, o_const 4 1439), (4, o_iload 5 3), (5, o_aload 6 0), (6, o_getf 9 2 6), (9, o_iload 10 2), (10, o_iald 11), (11, o_iadd 12), (12, o_mmin 15), (15, o_mmax 18), (18, o_istore 20 4), (20, o_aload 21 0), (21, o_iload 22 1), (22, o_iload 24 4), (24, o_callv 2 2 k_X2_tideAt 27), (27, o_aload 28 0), (28, o_getf 31 2 5), (31, o_iload 32 2), (32, o_iald 33), (33, o_iadd 34), (34, o_iret)]
set_option maxRecDepth 20000 in
theorem t_X2_seaAt : ∀ q ∈ T_X2_seaAt, zS k_X2_seaAt q.1 q.2 := by
  unfold T_X2_seaAt
  refine List.forall_mem_cons.mpr ⟨s_iconst (by decide +kernel) rfl, ?_⟩
  refine List.forall_mem_cons.mpr ⟨s_sipush (by decide +kernel) (by decide) rfl, ?_⟩
  refine List.forall_mem_cons.mpr ⟨s_iload_n (j := 3) (by decide +kernel) rfl rfl, ?_⟩
  refine List.forall_mem_cons.mpr ⟨s_aload_n (j := 0) (by decide +kernel) rfl rfl, ?_⟩
  refine List.forall_mem_cons.mpr ⟨s_getf (idx := 24) (C := RX2) (T := TX2) (N := 20) rfl inX2 (by decide) q1_68 (by decide +kernel) rfl, ?_⟩
  refine List.forall_mem_cons.mpr ⟨s_iload_n (j := 2) (by decide +kernel) rfl rfl, ?_⟩
  refine List.forall_mem_cons.mpr ⟨s_iald (by decide +kernel) rfl, ?_⟩
  refine List.forall_mem_cons.mpr ⟨s_iadd (by decide +kernel) rfl, ?_⟩
  refine List.forall_mem_cons.mpr ⟨s_mmin (idx := 87) q2_162 q2_163b q1_12b qminC (by decide +kernel) rfl, ?_⟩
  refine List.forall_mem_cons.mpr ⟨s_mmax (idx := 81) q2_165 q2_166b q1_12b qmaxC (by decide +kernel) rfl, ?_⟩
  refine List.forall_mem_cons.mpr ⟨s_istore (by decide +kernel) (by decide) rfl, ?_⟩
  refine List.forall_mem_cons.mpr ⟨s_aload_n (j := 0) (by decide +kernel) rfl rfl, ?_⟩
  refine List.forall_mem_cons.mpr ⟨s_iload_n (j := 1) (by decide +kernel) rfl rfl, ?_⟩
  refine List.forall_mem_cons.mpr ⟨s_iload (by decide +kernel) rfl, ?_⟩
  refine List.forall_mem_cons.mpr ⟨s_callv (idx := 90) (k' := k_X2_tideAt) (T := TX2) (N := 20) rfl q2_171 q2_168 q2_169 q2_170 q1_3 de_X2_tideAt (by decide) (by decide +kernel) rfl, ?_⟩
  refine List.forall_mem_cons.mpr ⟨s_aload_n (j := 0) (by decide +kernel) rfl rfl, ?_⟩
  refine List.forall_mem_cons.mpr ⟨s_getf (idx := 21) (C := RX2) (T := TX2) (N := 20) rfl inX2 (by decide) q1_66 (by decide +kernel) rfl, ?_⟩
  refine List.forall_mem_cons.mpr ⟨s_iload_n (j := 2) (by decide +kernel) rfl rfl, ?_⟩
  refine List.forall_mem_cons.mpr ⟨s_iald (by decide +kernel) rfl, ?_⟩
  refine List.forall_mem_cons.mpr ⟨s_iadd (by decide +kernel) rfl, ?_⟩
  refine List.forall_mem_cons.mpr ⟨s_iret rfl (by decide +kernel), ?_⟩
  exact fun q hq => absurd hq List.not_mem_nil
def T_X2_rowOf : List (Nat × zO) := [(0, o_iload 1 1), (1, o_tsw 0 3 [32, 37, 42, 47] 52), (32, o_aload 33 0), (33, o_getf 36 2 14), (36, o_aret), (37, o_aload 38 0), (38, o_getf 41 2 15), (41, o_aret), (42, o_aload 43 0), (43, o_getf 46 2 16), (46, o_aret), (47, o_aload 48 0), (48, o_getf 51 2 9), (51, o_aret), (52, o_aload 53 0), (53, o_getf 56 2 17), (56, o_aret)]
set_option maxRecDepth 20000 in
theorem t_X2_rowOf : ∀ q ∈ T_X2_rowOf, zS k_X2_rowOf q.1 q.2 := by
  unfold T_X2_rowOf
  refine List.forall_mem_cons.mpr ⟨s_iload_n (j := 1) (by decide +kernel) rfl rfl, ?_⟩
  refine List.forall_mem_cons.mpr ⟨s_tsw (dfo := 51) (offs := #[31, 36, 41, 46]) (len := 31) (by decide +kernel) (by decide) (by decide) (by decide), ?_⟩
  refine List.forall_mem_cons.mpr ⟨s_aload_n (j := 0) (by decide +kernel) rfl rfl, ?_⟩
  refine List.forall_mem_cons.mpr ⟨s_getf (idx := 42) (C := RX2) (T := TX2) (N := 20) rfl inX2 (by decide) q1_88 (by decide +kernel) rfl, ?_⟩
  refine List.forall_mem_cons.mpr ⟨s_aret rfl (by decide +kernel), ?_⟩
  refine List.forall_mem_cons.mpr ⟨s_aload_n (j := 0) (by decide +kernel) rfl rfl, ?_⟩
  refine List.forall_mem_cons.mpr ⟨s_getf (idx := 45) (C := RX2) (T := TX2) (N := 20) rfl inX2 (by decide) q1_92 (by decide +kernel) rfl, ?_⟩
  refine List.forall_mem_cons.mpr ⟨s_aret rfl (by decide +kernel), ?_⟩
  refine List.forall_mem_cons.mpr ⟨s_aload_n (j := 0) (by decide +kernel) rfl rfl, ?_⟩
  refine List.forall_mem_cons.mpr ⟨s_getf (idx := 48) (C := RX2) (T := TX2) (N := 20) rfl inX2 (by decide) q1_96 (by decide +kernel) rfl, ?_⟩
  refine List.forall_mem_cons.mpr ⟨s_aret rfl (by decide +kernel), ?_⟩
  refine List.forall_mem_cons.mpr ⟨s_aload_n (j := 0) (by decide +kernel) rfl rfl, ?_⟩
  refine List.forall_mem_cons.mpr ⟨s_getf (idx := 30) (C := RX2) (T := TX2) (N := 20) rfl inX2 (by decide) q1_73 (by decide +kernel) rfl, ?_⟩
  refine List.forall_mem_cons.mpr ⟨s_aret rfl (by decide +kernel), ?_⟩
  refine List.forall_mem_cons.mpr ⟨s_aload_n (j := 0) (by decide +kernel) rfl rfl, ?_⟩
  refine List.forall_mem_cons.mpr ⟨s_getf (idx := 51) (C := RX2) (T := TX2) (N := 20) rfl inX2 (by decide) q1_100 (by decide +kernel) rfl, ?_⟩
  refine List.forall_mem_cons.mpr ⟨s_aret rfl (by decide +kernel), ?_⟩
  exact fun q hq => absurd hq List.not_mem_nil
def T_X3_add : List (Nat × zO) := [(0, o_aload 1 0), (1, o_getf 4 3 3), (4, o_const 6 12), (6, o_icmp_lt 11 9), (9, o_const 10 0), (10, o_zret), (11, o_aload 12 0), (12, o_getf 15 3 2), (15, o_aload 16 0), (16, o_getf 19 3 3), (19, o_iload 20 1), (20, o_iast 21), (21, o_aload 22 0), (22, o_dup 23), (23, o_getf 26 3 3), (26, o_const 27 1), (27, o_iadd 28), (28, o_putf 31 3 3), (31, o_const 32 1), (32, o_zret)]
set_option maxRecDepth 20000 in
theorem t_X3_add : ∀ q ∈ T_X3_add, zS k_X3_add q.1 q.2 := by
  unfold T_X3_add
  refine List.forall_mem_cons.mpr ⟨s_aload_n (j := 0) (by decide +kernel) rfl rfl, ?_⟩
  refine List.forall_mem_cons.mpr ⟨s_getf (idx := 23) (C := RX3) (T := TX3) (N := 7) rfl inX3 (by decide) q1_208 (by decide +kernel) rfl, ?_⟩
  refine List.forall_mem_cons.mpr ⟨s_bipush (by decide +kernel) (by decide) rfl, ?_⟩
  refine List.forall_mem_cons.mpr ⟨s_icmp_lt (off := 5) (by decide +kernel) (by decide) rfl, ?_⟩
  refine List.forall_mem_cons.mpr ⟨s_iconst (by decide +kernel) rfl, ?_⟩
  refine List.forall_mem_cons.mpr ⟨s_zret rfl (by decide +kernel), ?_⟩
  refine List.forall_mem_cons.mpr ⟨s_aload_n (j := 0) (by decide +kernel) rfl rfl, ?_⟩
  refine List.forall_mem_cons.mpr ⟨s_getf (idx := 9) (C := RX3) (T := TX3) (N := 7) rfl inX3 (by decide) q1_207 (by decide +kernel) rfl, ?_⟩
  refine List.forall_mem_cons.mpr ⟨s_aload_n (j := 0) (by decide +kernel) rfl rfl, ?_⟩
  refine List.forall_mem_cons.mpr ⟨s_getf (idx := 23) (C := RX3) (T := TX3) (N := 7) rfl inX3 (by decide) q1_208 (by decide +kernel) rfl, ?_⟩
  refine List.forall_mem_cons.mpr ⟨s_iload_n (j := 1) (by decide +kernel) rfl rfl, ?_⟩
  refine List.forall_mem_cons.mpr ⟨s_iast (by decide +kernel) rfl, ?_⟩
  refine List.forall_mem_cons.mpr ⟨s_aload_n (j := 0) (by decide +kernel) rfl rfl, ?_⟩
  refine List.forall_mem_cons.mpr ⟨s_dup (by decide +kernel) rfl, ?_⟩
  refine List.forall_mem_cons.mpr ⟨s_getf (idx := 23) (C := RX3) (T := TX3) (N := 7) rfl inX3 (by decide) q1_208 (by decide +kernel) rfl, ?_⟩
  refine List.forall_mem_cons.mpr ⟨s_iconst (by decide +kernel) rfl, ?_⟩
  refine List.forall_mem_cons.mpr ⟨s_iadd (by decide +kernel) rfl, ?_⟩
  refine List.forall_mem_cons.mpr ⟨s_putf (idx := 23) (C := RX3) (T := TX3) (N := 7) rfl inX3 tyX3_ok nmX3 (by decide) rfl (tyX3_ok 3 (by decide)) (Or.inl ⟨rfl, kdI 3 3 (by decide)⟩) q1_208 (by decide +kernel) rfl, ?_⟩
  refine List.forall_mem_cons.mpr ⟨s_iconst (by decide +kernel) rfl, ?_⟩
  refine List.forall_mem_cons.mpr ⟨s_zret rfl (by decide +kernel), ?_⟩
  exact fun q hq => absurd hq List.not_mem_nil
def T_X3_walk : List (Nat × zO) := [(0, o_aload 1 0), (1, o_iload 2 1), (2, o_const 5 10000), (5, o_idiv 6), (6, o_putf 9 3 4), (9, o_aload 10 0), (10, o_iload 11 1), (11, o_const 14 10000), (14, o_irem 15), (15, o_putf 18 3 5), (18, o_aload 19 0), (19, o_const 20 0), (20, o_putf 23 3 6), (23, o_const 24 0), (24, o_istore 25 3), (25, o_iload 26 3), (26, o_aload 27 0), (27, o_getf 30 3 3), (30, o_icmp_ge 86 33), (33, o_aload 34 0), (34, o_getf 37 3 2), (37, o_iload 38 3), (38, o_iald 39), (39, o_const 41 100), (41, o_icmp_le 60 44), (44, o_aload 45 0), (45, o_aload 46 0), (46, o_getf 49 3 2), (49, o_iload 50 3), (50, o_iald 51), (51, o_const 53 100), (53, o_isub 54), (54, o_callv 1 3 k_X3_stay 57), (57, o_goto 71), (60, o_aload 61 0), (61, o_aload 62 0), (62, o_getf 65 3 2), (65, o_iload 66 3), (66, o_iald 67), (67, o_iload 68 2), (68, o_callv 2 3 k_X3_follow 71), (71, o_istore 73 4), (73, o_iload 75 4), (75, o_if_ne 80 78), (78, o_iload 79 3), (79, o_iret), (80, o_iinc 83 3 1), (83, o_goto 25), (86, o_const 88 (-2)), (88, o_iret)]
set_option maxRecDepth 20000 in
theorem t_X3_walk : ∀ q ∈ T_X3_walk, zS k_X3_walk q.1 q.2 := by
  unfold T_X3_walk
  refine List.forall_mem_cons.mpr ⟨s_aload_n (j := 0) (by decide +kernel) rfl rfl, ?_⟩
  refine List.forall_mem_cons.mpr ⟨s_iload_n (j := 1) (by decide +kernel) rfl rfl, ?_⟩
  refine List.forall_mem_cons.mpr ⟨s_sipush (by decide +kernel) (by decide) rfl, ?_⟩
  refine List.forall_mem_cons.mpr ⟨s_idiv (by decide +kernel) rfl, ?_⟩
  refine List.forall_mem_cons.mpr ⟨s_putf (idx := 27) (C := RX3) (T := TX3) (N := 7) rfl inX3 tyX3_ok nmX3 (by decide) rfl (tyX3_ok 4 (by decide)) (Or.inl ⟨rfl, kdI 3 4 (by decide)⟩) q1_210 (by decide +kernel) rfl, ?_⟩
  refine List.forall_mem_cons.mpr ⟨s_aload_n (j := 0) (by decide +kernel) rfl rfl, ?_⟩
  refine List.forall_mem_cons.mpr ⟨s_iload_n (j := 1) (by decide +kernel) rfl rfl, ?_⟩
  refine List.forall_mem_cons.mpr ⟨s_sipush (by decide +kernel) (by decide) rfl, ?_⟩
  refine List.forall_mem_cons.mpr ⟨s_irem (by decide +kernel) rfl, ?_⟩
  refine List.forall_mem_cons.mpr ⟨s_putf (idx := 30) (C := RX3) (T := TX3) (N := 7) rfl inX3 tyX3_ok nmX3 (by decide) rfl (tyX3_ok 5 (by decide)) (Or.inl ⟨rfl, kdI 3 5 (by decide)⟩) q1_212 (by decide +kernel) rfl, ?_⟩
  refine List.forall_mem_cons.mpr ⟨s_aload_n (j := 0) (by decide +kernel) rfl rfl, ?_⟩
  refine List.forall_mem_cons.mpr ⟨s_iconst (by decide +kernel) rfl, ?_⟩
  refine List.forall_mem_cons.mpr ⟨s_putf (idx := 33) (C := RX3) (T := TX3) (N := 7) rfl inX3 tyX3_ok nmX3 (by decide) rfl (tyX3_ok 6 (by decide)) (Or.inl ⟨rfl, kdI 3 6 (by decide)⟩) q1_214 (by decide +kernel) rfl, ?_⟩
  refine List.forall_mem_cons.mpr ⟨s_iconst (by decide +kernel) rfl, ?_⟩
  refine List.forall_mem_cons.mpr ⟨s_istore_n (j := 3) (by decide +kernel) rfl (by decide) rfl, ?_⟩
  refine List.forall_mem_cons.mpr ⟨s_iload_n (j := 3) (by decide +kernel) rfl rfl, ?_⟩
  refine List.forall_mem_cons.mpr ⟨s_aload_n (j := 0) (by decide +kernel) rfl rfl, ?_⟩
  refine List.forall_mem_cons.mpr ⟨s_getf (idx := 23) (C := RX3) (T := TX3) (N := 7) rfl inX3 (by decide) q1_208 (by decide +kernel) rfl, ?_⟩
  refine List.forall_mem_cons.mpr ⟨s_icmp_ge (off := 56) (by decide +kernel) (by decide) rfl, ?_⟩
  refine List.forall_mem_cons.mpr ⟨s_aload_n (j := 0) (by decide +kernel) rfl rfl, ?_⟩
  refine List.forall_mem_cons.mpr ⟨s_getf (idx := 9) (C := RX3) (T := TX3) (N := 7) rfl inX3 (by decide) q1_207 (by decide +kernel) rfl, ?_⟩
  refine List.forall_mem_cons.mpr ⟨s_iload_n (j := 3) (by decide +kernel) rfl rfl, ?_⟩
  refine List.forall_mem_cons.mpr ⟨s_iald (by decide +kernel) rfl, ?_⟩
  refine List.forall_mem_cons.mpr ⟨s_bipush (by decide +kernel) (by decide) rfl, ?_⟩
  refine List.forall_mem_cons.mpr ⟨s_icmp_le (off := 19) (by decide +kernel) (by decide) rfl, ?_⟩
  refine List.forall_mem_cons.mpr ⟨s_aload_n (j := 0) (by decide +kernel) rfl rfl, ?_⟩
  refine List.forall_mem_cons.mpr ⟨s_aload_n (j := 0) (by decide +kernel) rfl rfl, ?_⟩
  refine List.forall_mem_cons.mpr ⟨s_getf (idx := 9) (C := RX3) (T := TX3) (N := 7) rfl inX3 (by decide) q1_207 (by decide +kernel) rfl, ?_⟩
  refine List.forall_mem_cons.mpr ⟨s_iload_n (j := 3) (by decide +kernel) rfl rfl, ?_⟩
  refine List.forall_mem_cons.mpr ⟨s_iald (by decide +kernel) rfl, ?_⟩
  refine List.forall_mem_cons.mpr ⟨s_bipush (by decide +kernel) (by decide) rfl, ?_⟩
  refine List.forall_mem_cons.mpr ⟨s_isub (by decide +kernel) rfl, ?_⟩
  refine List.forall_mem_cons.mpr ⟨s_callv (idx := 36) (k' := k_X3_stay) (T := TX3) (N := 7) rfl q3_186 q3_183 q3_185 qs_22 q1_6 de_X3_stay (by decide) (by decide +kernel) rfl, ?_⟩
  refine List.forall_mem_cons.mpr ⟨s_goto (off := 14) (by decide +kernel) (by decide), ?_⟩
  refine List.forall_mem_cons.mpr ⟨s_aload_n (j := 0) (by decide +kernel) rfl rfl, ?_⟩
  refine List.forall_mem_cons.mpr ⟨s_aload_n (j := 0) (by decide +kernel) rfl rfl, ?_⟩
  refine List.forall_mem_cons.mpr ⟨s_getf (idx := 9) (C := RX3) (T := TX3) (N := 7) rfl inX3 (by decide) q1_207 (by decide +kernel) rfl, ?_⟩
  refine List.forall_mem_cons.mpr ⟨s_iload_n (j := 3) (by decide +kernel) rfl rfl, ?_⟩
  refine List.forall_mem_cons.mpr ⟨s_iald (by decide +kernel) rfl, ?_⟩
  refine List.forall_mem_cons.mpr ⟨s_iload_n (j := 2) (by decide +kernel) rfl rfl, ?_⟩
  refine List.forall_mem_cons.mpr ⟨s_callv (idx := 40) (k' := k_X3_follow) (T := TX3) (N := 7) rfl q3_190 q3_187 q3_189 qs_23 q1_6 de_X3_follow (by decide) (by decide +kernel) rfl, ?_⟩
  refine List.forall_mem_cons.mpr ⟨s_istore (by decide +kernel) (by decide) rfl, ?_⟩
  refine List.forall_mem_cons.mpr ⟨s_iload (by decide +kernel) rfl, ?_⟩
  refine List.forall_mem_cons.mpr ⟨s_if_ne (off := 5) (by decide +kernel) (by decide) rfl, ?_⟩
  refine List.forall_mem_cons.mpr ⟨s_iload_n (j := 3) (by decide +kernel) rfl rfl, ?_⟩
  refine List.forall_mem_cons.mpr ⟨s_iret rfl (by decide +kernel), ?_⟩
  refine List.forall_mem_cons.mpr ⟨s_iinc (by decide +kernel) (by decide) rfl, ?_⟩
  refine List.forall_mem_cons.mpr ⟨s_goto (off := (-58)) (by decide +kernel) (by decide), ?_⟩
  refine List.forall_mem_cons.mpr ⟨s_bipush (by decide +kernel) (by decide) rfl, ?_⟩
  refine List.forall_mem_cons.mpr ⟨s_iret rfl (by decide +kernel), ?_⟩
  exact fun q hq => absurd hq List.not_mem_nil
def T_X3_stay : List (Nat × zO) := [(0, o_aload 1 0), (1, o_getf 4 3 1), (4, o_aload 5 0), (5, o_getf 8 3 0), (8, o_getf 11 2 9), (11, o_aload 12 0), (12, o_getf 15 3 4), (15, o_iald 16), (16, o_aload 17 0), (17, o_getf 20 3 5), (20, o_callv 2 4 k_X4_firstAbove 23), (23, o_aload 24 0), (24, o_getf 27 3 5), (27, o_iload 28 1), (28, o_iadd 29), (29, o_icmp_gt 34 32), (32, o_const 33 0), (33, o_zret), (34, o_aload 35 0), (35, o_dup 36), (36, o_getf 39 3 5), (39, o_iload 40 1), (40, o_iadd 41), (41, o_putf 44 3 5), (44, o_const 45 1), (45, o_zret)]
set_option maxRecDepth 20000 in
theorem t_X3_stay : ∀ q ∈ T_X3_stay, zS k_X3_stay q.1 q.2 := by
  unfold T_X3_stay
  refine List.forall_mem_cons.mpr ⟨s_aload_n (j := 0) (by decide +kernel) rfl rfl, ?_⟩
  refine List.forall_mem_cons.mpr ⟨s_getf (idx := 19) (C := RX3) (T := TX3) (N := 7) rfl inX3 (by decide) q1_206 (by decide +kernel) rfl, ?_⟩
  refine List.forall_mem_cons.mpr ⟨s_aload_n (j := 0) (by decide +kernel) rfl rfl, ?_⟩
  refine List.forall_mem_cons.mpr ⟨s_getf (idx := 15) (C := RX3) (T := TX3) (N := 7) rfl inX3 (by decide) q1_205 (by decide +kernel) rfl, ?_⟩
  refine List.forall_mem_cons.mpr ⟨s_getf (idx := 44) (C := RX2) (T := TX2) (N := 20) rfl inX2 (by decide) q1_74 (by decide +kernel) rfl, ?_⟩
  refine List.forall_mem_cons.mpr ⟨s_aload_n (j := 0) (by decide +kernel) rfl rfl, ?_⟩
  refine List.forall_mem_cons.mpr ⟨s_getf (idx := 27) (C := RX3) (T := TX3) (N := 7) rfl inX3 (by decide) q1_210 (by decide +kernel) rfl, ?_⟩
  refine List.forall_mem_cons.mpr ⟨s_iald (by decide +kernel) rfl, ?_⟩
  refine List.forall_mem_cons.mpr ⟨s_aload_n (j := 0) (by decide +kernel) rfl rfl, ?_⟩
  refine List.forall_mem_cons.mpr ⟨s_getf (idx := 30) (C := RX3) (T := TX3) (N := 7) rfl inX3 (by decide) q1_212 (by decide +kernel) rfl, ?_⟩
  refine List.forall_mem_cons.mpr ⟨s_callv (idx := 49) (k' := k_X4_firstAbove) (T := TX4) (N := 5) rfl q3_33 q3_30 q3_31 q3_32 q1_4 de_X4_firstAbove (by decide) (by decide +kernel) rfl, ?_⟩
  refine List.forall_mem_cons.mpr ⟨s_aload_n (j := 0) (by decide +kernel) rfl rfl, ?_⟩
  refine List.forall_mem_cons.mpr ⟨s_getf (idx := 30) (C := RX3) (T := TX3) (N := 7) rfl inX3 (by decide) q1_212 (by decide +kernel) rfl, ?_⟩
  refine List.forall_mem_cons.mpr ⟨s_iload_n (j := 1) (by decide +kernel) rfl rfl, ?_⟩
  refine List.forall_mem_cons.mpr ⟨s_iadd (by decide +kernel) rfl, ?_⟩
  refine List.forall_mem_cons.mpr ⟨s_icmp_gt (off := 5) (by decide +kernel) (by decide) rfl, ?_⟩
  refine List.forall_mem_cons.mpr ⟨s_iconst (by decide +kernel) rfl, ?_⟩
  refine List.forall_mem_cons.mpr ⟨s_zret rfl (by decide +kernel), ?_⟩
  refine List.forall_mem_cons.mpr ⟨s_aload_n (j := 0) (by decide +kernel) rfl rfl, ?_⟩
  refine List.forall_mem_cons.mpr ⟨s_dup (by decide +kernel) rfl, ?_⟩
  refine List.forall_mem_cons.mpr ⟨s_getf (idx := 30) (C := RX3) (T := TX3) (N := 7) rfl inX3 (by decide) q1_212 (by decide +kernel) rfl, ?_⟩
  refine List.forall_mem_cons.mpr ⟨s_iload_n (j := 1) (by decide +kernel) rfl rfl, ?_⟩
  refine List.forall_mem_cons.mpr ⟨s_iadd (by decide +kernel) rfl, ?_⟩
  refine List.forall_mem_cons.mpr ⟨s_putf (idx := 30) (C := RX3) (T := TX3) (N := 7) rfl inX3 tyX3_ok nmX3 (by decide) rfl (tyX3_ok 5 (by decide)) (Or.inl ⟨rfl, kdI 3 5 (by decide)⟩) q1_212 (by decide +kernel) rfl, ?_⟩
  refine List.forall_mem_cons.mpr ⟨s_iconst (by decide +kernel) rfl, ?_⟩
  refine List.forall_mem_cons.mpr ⟨s_zret rfl (by decide +kernel), ?_⟩
  exact fun q hq => absurd hq List.not_mem_nil
def T_X3_follow : List (Nat × zO) := [(0, o_aload 1 0), (1, o_iload 2 1), (2, o_callv 1 3 k_X3_leadsOn 5), (5, o_if_eq 25 8), (8, o_aload 9 0), (9, o_iload 10 1), (10, o_aload 11 0), (11, o_getf 14 3 5), (14, o_iload 15 2), (15, o_aload 16 0), (16, o_getf 19 3 6), (19, o_callv 4 3 k_X3_wayGoes 22), (22, o_if_ne 27 25), (25, o_const 26 0), (26, o_zret), (27, o_aload 28 0), (28, o_dup 29), (29, o_getf 32 3 5), (32, o_aload 33 0), (33, o_getf 36 3 0), (36, o_iload 37 1), (37, o_iload 38 2), (38, o_aload 39 0), (39, o_getf 42 3 6), (42, o_callv 3 2 k_X2_taking 45), (45, o_iadd 46), (46, o_putf 49 3 5), (49, o_aload 50 0), (50, o_aload 51 0), (51, o_getf 54 3 0), (54, o_getf 57 2 11), (57, o_iload 58 1), (58, o_iald 59), (59, o_aload 60 0), (60, o_getf 63 3 4), (63, o_icmp_ne 78 66), (66, o_aload 67 0), (67, o_getf 70 3 0), (70, o_getf 73 2 12), (73, o_iload 74 1), (74, o_iald 75), (75, o_goto 87), (78, o_aload 79 0), (79, o_getf 82 3 0), (82, o_getf 85 2 11), (85, o_iload 86 1), (86, o_iald 87), (87, o_putf 90 3 4), (90, o_aload 91 0), (91, o_aload 92 0), (92, o_getf 95 3 6), (95, o_const 96 1), (96, o_iadd 97), (97, o_const 98 3), (98, o_mmin 101), (101, o_putf 104 3 6), (104, o_const 105 1), (105, o_zret)]
set_option maxRecDepth 20000 in
theorem t_X3_follow : ∀ q ∈ T_X3_follow, zS k_X3_follow q.1 q.2 := by
  unfold T_X3_follow
  refine List.forall_mem_cons.mpr ⟨s_aload_n (j := 0) (by decide +kernel) rfl rfl, ?_⟩
  refine List.forall_mem_cons.mpr ⟨s_iload_n (j := 1) (by decide +kernel) rfl rfl, ?_⟩
  refine List.forall_mem_cons.mpr ⟨s_callv (idx := 55) (k' := k_X3_leadsOn) (T := TX3) (N := 7) rfl q3_194 q3_191 q3_193 qs_24 q1_6 de_X3_leadsOn (by decide) (by decide +kernel) rfl, ?_⟩
  refine List.forall_mem_cons.mpr ⟨s_if_eq (off := 20) (by decide +kernel) (by decide) rfl, ?_⟩
  refine List.forall_mem_cons.mpr ⟨s_aload_n (j := 0) (by decide +kernel) rfl rfl, ?_⟩
  refine List.forall_mem_cons.mpr ⟨s_iload_n (j := 1) (by decide +kernel) rfl rfl, ?_⟩
  refine List.forall_mem_cons.mpr ⟨s_aload_n (j := 0) (by decide +kernel) rfl rfl, ?_⟩
  refine List.forall_mem_cons.mpr ⟨s_getf (idx := 30) (C := RX3) (T := TX3) (N := 7) rfl inX3 (by decide) q1_212 (by decide +kernel) rfl, ?_⟩
  refine List.forall_mem_cons.mpr ⟨s_iload_n (j := 2) (by decide +kernel) rfl rfl, ?_⟩
  refine List.forall_mem_cons.mpr ⟨s_aload_n (j := 0) (by decide +kernel) rfl rfl, ?_⟩
  refine List.forall_mem_cons.mpr ⟨s_getf (idx := 33) (C := RX3) (T := TX3) (N := 7) rfl inX3 (by decide) q1_214 (by decide +kernel) rfl, ?_⟩
  refine List.forall_mem_cons.mpr ⟨s_callv (idx := 58) (k' := k_X3_wayGoes) (T := TX3) (N := 7) rfl q3_29 q3_195 q3_27 q3_28 q1_6 de_X3_wayGoes (by decide) (by decide +kernel) rfl, ?_⟩
  refine List.forall_mem_cons.mpr ⟨s_if_ne (off := 5) (by decide +kernel) (by decide) rfl, ?_⟩
  refine List.forall_mem_cons.mpr ⟨s_iconst (by decide +kernel) rfl, ?_⟩
  refine List.forall_mem_cons.mpr ⟨s_zret rfl (by decide +kernel), ?_⟩
  refine List.forall_mem_cons.mpr ⟨s_aload_n (j := 0) (by decide +kernel) rfl rfl, ?_⟩
  refine List.forall_mem_cons.mpr ⟨s_dup (by decide +kernel) rfl, ?_⟩
  refine List.forall_mem_cons.mpr ⟨s_getf (idx := 30) (C := RX3) (T := TX3) (N := 7) rfl inX3 (by decide) q1_212 (by decide +kernel) rfl, ?_⟩
  refine List.forall_mem_cons.mpr ⟨s_aload_n (j := 0) (by decide +kernel) rfl rfl, ?_⟩
  refine List.forall_mem_cons.mpr ⟨s_getf (idx := 15) (C := RX3) (T := TX3) (N := 7) rfl inX3 (by decide) q1_205 (by decide +kernel) rfl, ?_⟩
  refine List.forall_mem_cons.mpr ⟨s_iload_n (j := 1) (by decide +kernel) rfl rfl, ?_⟩
  refine List.forall_mem_cons.mpr ⟨s_iload_n (j := 2) (by decide +kernel) rfl rfl, ?_⟩
  refine List.forall_mem_cons.mpr ⟨s_aload_n (j := 0) (by decide +kernel) rfl rfl, ?_⟩
  refine List.forall_mem_cons.mpr ⟨s_getf (idx := 33) (C := RX3) (T := TX3) (N := 7) rfl inX3 (by decide) q1_214 (by decide +kernel) rfl, ?_⟩
  refine List.forall_mem_cons.mpr ⟨s_callv (idx := 62) (k' := k_X2_taking) (T := TX2) (N := 20) rfl q2_235 q3_34 q2_233 q2_234 q1_3 de_X2_taking (by decide) (by decide +kernel) rfl, ?_⟩
  refine List.forall_mem_cons.mpr ⟨s_iadd (by decide +kernel) rfl, ?_⟩
  refine List.forall_mem_cons.mpr ⟨s_putf (idx := 30) (C := RX3) (T := TX3) (N := 7) rfl inX3 tyX3_ok nmX3 (by decide) rfl (tyX3_ok 5 (by decide)) (Or.inl ⟨rfl, kdI 3 5 (by decide)⟩) q1_212 (by decide +kernel) rfl, ?_⟩
  refine List.forall_mem_cons.mpr ⟨s_aload_n (j := 0) (by decide +kernel) rfl rfl, ?_⟩
  refine List.forall_mem_cons.mpr ⟨s_aload_n (j := 0) (by decide +kernel) rfl rfl, ?_⟩
  refine List.forall_mem_cons.mpr ⟨s_getf (idx := 15) (C := RX3) (T := TX3) (N := 7) rfl inX3 (by decide) q1_205 (by decide +kernel) rfl, ?_⟩
  refine List.forall_mem_cons.mpr ⟨s_getf (idx := 66) (C := RX2) (T := TX2) (N := 20) rfl inX2 (by decide) q1_82 (by decide +kernel) rfl, ?_⟩
  refine List.forall_mem_cons.mpr ⟨s_iload_n (j := 1) (by decide +kernel) rfl rfl, ?_⟩
  refine List.forall_mem_cons.mpr ⟨s_iald (by decide +kernel) rfl, ?_⟩
  refine List.forall_mem_cons.mpr ⟨s_aload_n (j := 0) (by decide +kernel) rfl rfl, ?_⟩
  refine List.forall_mem_cons.mpr ⟨s_getf (idx := 27) (C := RX3) (T := TX3) (N := 7) rfl inX3 (by decide) q1_210 (by decide +kernel) rfl, ?_⟩
  refine List.forall_mem_cons.mpr ⟨s_icmp_ne (off := 15) (by decide +kernel) (by decide) rfl, ?_⟩
  refine List.forall_mem_cons.mpr ⟨s_aload_n (j := 0) (by decide +kernel) rfl rfl, ?_⟩
  refine List.forall_mem_cons.mpr ⟨s_getf (idx := 15) (C := RX3) (T := TX3) (N := 7) rfl inX3 (by decide) q1_205 (by decide +kernel) rfl, ?_⟩
  refine List.forall_mem_cons.mpr ⟨s_getf (idx := 69) (C := RX2) (T := TX2) (N := 20) rfl inX2 (by decide) q1_85 (by decide +kernel) rfl, ?_⟩
  refine List.forall_mem_cons.mpr ⟨s_iload_n (j := 1) (by decide +kernel) rfl rfl, ?_⟩
  refine List.forall_mem_cons.mpr ⟨s_iald (by decide +kernel) rfl, ?_⟩
  refine List.forall_mem_cons.mpr ⟨s_goto (off := 12) (by decide +kernel) (by decide), ?_⟩
  refine List.forall_mem_cons.mpr ⟨s_aload_n (j := 0) (by decide +kernel) rfl rfl, ?_⟩
  refine List.forall_mem_cons.mpr ⟨s_getf (idx := 15) (C := RX3) (T := TX3) (N := 7) rfl inX3 (by decide) q1_205 (by decide +kernel) rfl, ?_⟩
  refine List.forall_mem_cons.mpr ⟨s_getf (idx := 66) (C := RX2) (T := TX2) (N := 20) rfl inX2 (by decide) q1_82 (by decide +kernel) rfl, ?_⟩
  refine List.forall_mem_cons.mpr ⟨s_iload_n (j := 1) (by decide +kernel) rfl rfl, ?_⟩
  refine List.forall_mem_cons.mpr ⟨s_iald (by decide +kernel) rfl, ?_⟩
  refine List.forall_mem_cons.mpr ⟨s_putf (idx := 27) (C := RX3) (T := TX3) (N := 7) rfl inX3 tyX3_ok nmX3 (by decide) rfl (tyX3_ok 4 (by decide)) (Or.inl ⟨rfl, kdI 3 4 (by decide)⟩) q1_210 (by decide +kernel) rfl, ?_⟩
  refine List.forall_mem_cons.mpr ⟨s_aload_n (j := 0) (by decide +kernel) rfl rfl, ?_⟩
  refine List.forall_mem_cons.mpr ⟨s_aload_n (j := 0) (by decide +kernel) rfl rfl, ?_⟩
  refine List.forall_mem_cons.mpr ⟨s_getf (idx := 33) (C := RX3) (T := TX3) (N := 7) rfl inX3 (by decide) q1_214 (by decide +kernel) rfl, ?_⟩
  refine List.forall_mem_cons.mpr ⟨s_iconst (by decide +kernel) rfl, ?_⟩
  refine List.forall_mem_cons.mpr ⟨s_iadd (by decide +kernel) rfl, ?_⟩
  refine List.forall_mem_cons.mpr ⟨s_iconst (by decide +kernel) rfl, ?_⟩
  refine List.forall_mem_cons.mpr ⟨s_mmin (idx := 72) q3_196 q2_163b q1_12b qminC (by decide +kernel) rfl, ?_⟩
  refine List.forall_mem_cons.mpr ⟨s_putf (idx := 33) (C := RX3) (T := TX3) (N := 7) rfl inX3 tyX3_ok nmX3 (by decide) rfl (tyX3_ok 6 (by decide)) (Or.inl ⟨rfl, kdI 3 6 (by decide)⟩) q1_214 (by decide +kernel) rfl, ?_⟩
  refine List.forall_mem_cons.mpr ⟨s_iconst (by decide +kernel) rfl, ?_⟩
  refine List.forall_mem_cons.mpr ⟨s_zret rfl (by decide +kernel), ?_⟩
  exact fun q hq => absurd hq List.not_mem_nil
def T_X3_leadsOn : List (Nat × zO) := [(0, o_aload 1 0), (1, o_getf 4 3 0), (4, o_getf 7 2 11), (7, o_iload 8 1), (8, o_iald 9), (9, o_aload 10 0), (10, o_getf 13 3 4), (13, o_icmp_eq 32 16), (16, o_aload 17 0), (17, o_getf 20 3 0), (20, o_getf 23 2 12), (23, o_iload 24 1), (24, o_iald 25), (25, o_aload 26 0), (26, o_getf 29 3 4), (29, o_icmp_ne 36 32), (32, o_const 33 1), (33, o_goto 37), (36, o_const 37 0), (37, o_zret)]
set_option maxRecDepth 20000 in
theorem t_X3_leadsOn : ∀ q ∈ T_X3_leadsOn, zS k_X3_leadsOn q.1 q.2 := by
  unfold T_X3_leadsOn
  refine List.forall_mem_cons.mpr ⟨s_aload_n (j := 0) (by decide +kernel) rfl rfl, ?_⟩
  refine List.forall_mem_cons.mpr ⟨s_getf (idx := 15) (C := RX3) (T := TX3) (N := 7) rfl inX3 (by decide) q1_205 (by decide +kernel) rfl, ?_⟩
  refine List.forall_mem_cons.mpr ⟨s_getf (idx := 66) (C := RX2) (T := TX2) (N := 20) rfl inX2 (by decide) q1_82 (by decide +kernel) rfl, ?_⟩
  refine List.forall_mem_cons.mpr ⟨s_iload_n (j := 1) (by decide +kernel) rfl rfl, ?_⟩
  refine List.forall_mem_cons.mpr ⟨s_iald (by decide +kernel) rfl, ?_⟩
  refine List.forall_mem_cons.mpr ⟨s_aload_n (j := 0) (by decide +kernel) rfl rfl, ?_⟩
  refine List.forall_mem_cons.mpr ⟨s_getf (idx := 27) (C := RX3) (T := TX3) (N := 7) rfl inX3 (by decide) q1_210 (by decide +kernel) rfl, ?_⟩
  refine List.forall_mem_cons.mpr ⟨s_icmp_eq (off := 19) (by decide +kernel) (by decide) rfl, ?_⟩
  refine List.forall_mem_cons.mpr ⟨s_aload_n (j := 0) (by decide +kernel) rfl rfl, ?_⟩
  refine List.forall_mem_cons.mpr ⟨s_getf (idx := 15) (C := RX3) (T := TX3) (N := 7) rfl inX3 (by decide) q1_205 (by decide +kernel) rfl, ?_⟩
  refine List.forall_mem_cons.mpr ⟨s_getf (idx := 69) (C := RX2) (T := TX2) (N := 20) rfl inX2 (by decide) q1_85 (by decide +kernel) rfl, ?_⟩
  refine List.forall_mem_cons.mpr ⟨s_iload_n (j := 1) (by decide +kernel) rfl rfl, ?_⟩
  refine List.forall_mem_cons.mpr ⟨s_iald (by decide +kernel) rfl, ?_⟩
  refine List.forall_mem_cons.mpr ⟨s_aload_n (j := 0) (by decide +kernel) rfl rfl, ?_⟩
  refine List.forall_mem_cons.mpr ⟨s_getf (idx := 27) (C := RX3) (T := TX3) (N := 7) rfl inX3 (by decide) q1_210 (by decide +kernel) rfl, ?_⟩
  refine List.forall_mem_cons.mpr ⟨s_icmp_ne (off := 7) (by decide +kernel) (by decide) rfl, ?_⟩
  refine List.forall_mem_cons.mpr ⟨s_iconst (by decide +kernel) rfl, ?_⟩
  refine List.forall_mem_cons.mpr ⟨s_goto (off := 4) (by decide +kernel) (by decide), ?_⟩
  refine List.forall_mem_cons.mpr ⟨s_iconst (by decide +kernel) rfl, ?_⟩
  refine List.forall_mem_cons.mpr ⟨s_zret rfl (by decide +kernel), ?_⟩
  exact fun q hq => absurd hq List.not_mem_nil
def T_X3_wayGoes : List (Nat × zO) := [(0, o_iload 1 2), (1, o_aload 2 0), (2, o_getf 5 3 0), (5, o_getf 8 2 15), (8, o_iload 9 1), (9, o_iald 10), (10, o_icmp_lt 63 13), (13, o_iload 14 2), (14, o_aload 15 0), (15, o_getf 18 3 0), (18, o_getf 21 2 16), (21, o_iload 22 1), (22, o_iald 23), (23, o_icmp_gt 63 26), (26, o_aload 27 0), (27, o_getf 30 3 1), (30, o_aload 31 0), (31, o_getf 34 3 0), (34, o_getf 37 2 14), (37, o_iload 38 1), (38, o_iald 39), (39, o_iload 40 2), (40, o_callv 2 4 k_X4_firstAbove 43), (43, o_iload 44 2), (44, o_aload 45 0), (45, o_getf 48 3 0), (48, o_iload 49 1), (49, o_iload 50 3), (50, o_iload 52 4), (52, o_callv 3 2 k_X2_taking 55), (55, o_iadd 56), (56, o_icmp_le 63 59), (59, o_const 60 1), (60, o_goto 64), (63, o_const 64 0), (64, o_zret)]
set_option maxRecDepth 20000 in
theorem t_X3_wayGoes : ∀ q ∈ T_X3_wayGoes, zS k_X3_wayGoes q.1 q.2 := by
  unfold T_X3_wayGoes
  refine List.forall_mem_cons.mpr ⟨s_iload_n (j := 2) (by decide +kernel) rfl rfl, ?_⟩
  refine List.forall_mem_cons.mpr ⟨s_aload_n (j := 0) (by decide +kernel) rfl rfl, ?_⟩
  refine List.forall_mem_cons.mpr ⟨s_getf (idx := 15) (C := RX3) (T := TX3) (N := 7) rfl inX3 (by decide) q1_205 (by decide +kernel) rfl, ?_⟩
  refine List.forall_mem_cons.mpr ⟨s_getf (idx := 77) (C := RX2) (T := TX2) (N := 20) rfl inX2 (by decide) q1_93 (by decide +kernel) rfl, ?_⟩
  refine List.forall_mem_cons.mpr ⟨s_iload_n (j := 1) (by decide +kernel) rfl rfl, ?_⟩
  refine List.forall_mem_cons.mpr ⟨s_iald (by decide +kernel) rfl, ?_⟩
  refine List.forall_mem_cons.mpr ⟨s_icmp_lt (off := 53) (by decide +kernel) (by decide) rfl, ?_⟩
  refine List.forall_mem_cons.mpr ⟨s_iload_n (j := 2) (by decide +kernel) rfl rfl, ?_⟩
  refine List.forall_mem_cons.mpr ⟨s_aload_n (j := 0) (by decide +kernel) rfl rfl, ?_⟩
  refine List.forall_mem_cons.mpr ⟨s_getf (idx := 15) (C := RX3) (T := TX3) (N := 7) rfl inX3 (by decide) q1_205 (by decide +kernel) rfl, ?_⟩
  refine List.forall_mem_cons.mpr ⟨s_getf (idx := 80) (C := RX2) (T := TX2) (N := 20) rfl inX2 (by decide) q1_97 (by decide +kernel) rfl, ?_⟩
  refine List.forall_mem_cons.mpr ⟨s_iload_n (j := 1) (by decide +kernel) rfl rfl, ?_⟩
  refine List.forall_mem_cons.mpr ⟨s_iald (by decide +kernel) rfl, ?_⟩
  refine List.forall_mem_cons.mpr ⟨s_icmp_gt (off := 40) (by decide +kernel) (by decide) rfl, ?_⟩
  refine List.forall_mem_cons.mpr ⟨s_aload_n (j := 0) (by decide +kernel) rfl rfl, ?_⟩
  refine List.forall_mem_cons.mpr ⟨s_getf (idx := 19) (C := RX3) (T := TX3) (N := 7) rfl inX3 (by decide) q1_206 (by decide +kernel) rfl, ?_⟩
  refine List.forall_mem_cons.mpr ⟨s_aload_n (j := 0) (by decide +kernel) rfl rfl, ?_⟩
  refine List.forall_mem_cons.mpr ⟨s_getf (idx := 15) (C := RX3) (T := TX3) (N := 7) rfl inX3 (by decide) q1_205 (by decide +kernel) rfl, ?_⟩
  refine List.forall_mem_cons.mpr ⟨s_getf (idx := 83) (C := RX2) (T := TX2) (N := 20) rfl inX2 (by decide) q1_89 (by decide +kernel) rfl, ?_⟩
  refine List.forall_mem_cons.mpr ⟨s_iload_n (j := 1) (by decide +kernel) rfl rfl, ?_⟩
  refine List.forall_mem_cons.mpr ⟨s_iald (by decide +kernel) rfl, ?_⟩
  refine List.forall_mem_cons.mpr ⟨s_iload_n (j := 2) (by decide +kernel) rfl rfl, ?_⟩
  refine List.forall_mem_cons.mpr ⟨s_callv (idx := 49) (k' := k_X4_firstAbove) (T := TX4) (N := 5) rfl q3_33 q3_30 q3_31 q3_32 q1_4 de_X4_firstAbove (by decide) (by decide +kernel) rfl, ?_⟩
  refine List.forall_mem_cons.mpr ⟨s_iload_n (j := 2) (by decide +kernel) rfl rfl, ?_⟩
  refine List.forall_mem_cons.mpr ⟨s_aload_n (j := 0) (by decide +kernel) rfl rfl, ?_⟩
  refine List.forall_mem_cons.mpr ⟨s_getf (idx := 15) (C := RX3) (T := TX3) (N := 7) rfl inX3 (by decide) q1_205 (by decide +kernel) rfl, ?_⟩
  refine List.forall_mem_cons.mpr ⟨s_iload_n (j := 1) (by decide +kernel) rfl rfl, ?_⟩
  refine List.forall_mem_cons.mpr ⟨s_iload_n (j := 3) (by decide +kernel) rfl rfl, ?_⟩
  refine List.forall_mem_cons.mpr ⟨s_iload (by decide +kernel) rfl, ?_⟩
  refine List.forall_mem_cons.mpr ⟨s_callv (idx := 62) (k' := k_X2_taking) (T := TX2) (N := 20) rfl q2_235 q3_34 q2_233 q2_234 q1_3 de_X2_taking (by decide) (by decide +kernel) rfl, ?_⟩
  refine List.forall_mem_cons.mpr ⟨s_iadd (by decide +kernel) rfl, ?_⟩
  refine List.forall_mem_cons.mpr ⟨s_icmp_le (off := 7) (by decide +kernel) (by decide) rfl, ?_⟩
  refine List.forall_mem_cons.mpr ⟨s_iconst (by decide +kernel) rfl, ?_⟩
  refine List.forall_mem_cons.mpr ⟨s_goto (off := 4) (by decide +kernel) (by decide), ?_⟩
  refine List.forall_mem_cons.mpr ⟨s_iconst (by decide +kernel) rfl, ?_⟩
  refine List.forall_mem_cons.mpr ⟨s_zret rfl (by decide +kernel), ?_⟩
  exact fun q hq => absurd hq List.not_mem_nil
def T_X3_shutIn : List (Nat × zO) := [(0, o_aload 1 0), (1, o_getf 4 3 5), (4, o_aload 5 0), (5, o_getf 8 3 1), (8, o_aload 9 0), (9, o_getf 12 3 0), (12, o_getf 15 2 9), (15, o_aload 16 0), (16, o_getf 19 3 4), (19, o_iald 20), (20, o_aload 21 0), (21, o_getf 24 3 5), (24, o_callv 2 4 k_X4_firstAbove 27), (27, o_const 28 1), (28, o_isub 29), (29, o_mmax 32), (32, o_istore 33 2), (33, o_iload 34 2), (34, o_const 37 1439), (37, o_icmp_lt 43 40), (40, o_const 42 (-2)), (42, o_iret), (43, o_const 44 0), (44, o_istore 45 3), (45, o_iload 46 3), (46, o_aload 47 0), (47, o_getf 50 3 0), (50, o_getf 53 2 10), (53, o_icmp_ge 87 56), (56, o_aload 57 0), (57, o_iload 58 3), (58, o_callv 1 3 k_X3_leadsOn 61), (61, o_if_eq 81 64), (64, o_aload 65 0), (65, o_iload 66 3), (66, o_iload 67 2), (67, o_iload 68 1), (68, o_aload 69 0), (69, o_getf 72 3 6), (72, o_callv 4 3 k_X3_wayGoes 75), (75, o_if_eq 81 78), (78, o_const 80 (-2)), (80, o_iret), (81, o_iinc 84 3 1), (84, o_goto 45), (87, o_iload 88 2), (88, o_iret)]
set_option maxRecDepth 20000 in
theorem t_X3_shutIn : ∀ q ∈ T_X3_shutIn, zS k_X3_shutIn q.1 q.2 := by
  unfold T_X3_shutIn
  refine List.forall_mem_cons.mpr ⟨s_aload_n (j := 0) (by decide +kernel) rfl rfl, ?_⟩
  refine List.forall_mem_cons.mpr ⟨s_getf (idx := 30) (C := RX3) (T := TX3) (N := 7) rfl inX3 (by decide) q1_212 (by decide +kernel) rfl, ?_⟩
  refine List.forall_mem_cons.mpr ⟨s_aload_n (j := 0) (by decide +kernel) rfl rfl, ?_⟩
  refine List.forall_mem_cons.mpr ⟨s_getf (idx := 19) (C := RX3) (T := TX3) (N := 7) rfl inX3 (by decide) q1_206 (by decide +kernel) rfl, ?_⟩
  refine List.forall_mem_cons.mpr ⟨s_aload_n (j := 0) (by decide +kernel) rfl rfl, ?_⟩
  refine List.forall_mem_cons.mpr ⟨s_getf (idx := 15) (C := RX3) (T := TX3) (N := 7) rfl inX3 (by decide) q1_205 (by decide +kernel) rfl, ?_⟩
  refine List.forall_mem_cons.mpr ⟨s_getf (idx := 44) (C := RX2) (T := TX2) (N := 20) rfl inX2 (by decide) q1_74 (by decide +kernel) rfl, ?_⟩
  refine List.forall_mem_cons.mpr ⟨s_aload_n (j := 0) (by decide +kernel) rfl rfl, ?_⟩
  refine List.forall_mem_cons.mpr ⟨s_getf (idx := 27) (C := RX3) (T := TX3) (N := 7) rfl inX3 (by decide) q1_210 (by decide +kernel) rfl, ?_⟩
  refine List.forall_mem_cons.mpr ⟨s_iald (by decide +kernel) rfl, ?_⟩
  refine List.forall_mem_cons.mpr ⟨s_aload_n (j := 0) (by decide +kernel) rfl rfl, ?_⟩
  refine List.forall_mem_cons.mpr ⟨s_getf (idx := 30) (C := RX3) (T := TX3) (N := 7) rfl inX3 (by decide) q1_212 (by decide +kernel) rfl, ?_⟩
  refine List.forall_mem_cons.mpr ⟨s_callv (idx := 49) (k' := k_X4_firstAbove) (T := TX4) (N := 5) rfl q3_33 q3_30 q3_31 q3_32 q1_4 de_X4_firstAbove (by decide) (by decide +kernel) rfl, ?_⟩
  refine List.forall_mem_cons.mpr ⟨s_iconst (by decide +kernel) rfl, ?_⟩
  refine List.forall_mem_cons.mpr ⟨s_isub (by decide +kernel) rfl, ?_⟩
  refine List.forall_mem_cons.mpr ⟨s_mmax (idx := 86) q3_205 q2_166b q1_12b qmaxC (by decide +kernel) rfl, ?_⟩
  refine List.forall_mem_cons.mpr ⟨s_istore_n (j := 2) (by decide +kernel) rfl (by decide) rfl, ?_⟩
  refine List.forall_mem_cons.mpr ⟨s_iload_n (j := 2) (by decide +kernel) rfl rfl, ?_⟩
  refine List.forall_mem_cons.mpr ⟨s_sipush (by decide +kernel) (by decide) rfl, ?_⟩
  refine List.forall_mem_cons.mpr ⟨s_icmp_lt (off := 6) (by decide +kernel) (by decide) rfl, ?_⟩
  refine List.forall_mem_cons.mpr ⟨s_bipush (by decide +kernel) (by decide) rfl, ?_⟩
  refine List.forall_mem_cons.mpr ⟨s_iret rfl (by decide +kernel), ?_⟩
  refine List.forall_mem_cons.mpr ⟨s_iconst (by decide +kernel) rfl, ?_⟩
  refine List.forall_mem_cons.mpr ⟨s_istore_n (j := 3) (by decide +kernel) rfl (by decide) rfl, ?_⟩
  refine List.forall_mem_cons.mpr ⟨s_iload_n (j := 3) (by decide +kernel) rfl rfl, ?_⟩
  refine List.forall_mem_cons.mpr ⟨s_aload_n (j := 0) (by decide +kernel) rfl rfl, ?_⟩
  refine List.forall_mem_cons.mpr ⟨s_getf (idx := 15) (C := RX3) (T := TX3) (N := 7) rfl inX3 (by decide) q1_205 (by decide +kernel) rfl, ?_⟩
  refine List.forall_mem_cons.mpr ⟨s_getf (idx := 89) (C := RX2) (T := TX2) (N := 20) rfl inX2 (by decide) q1_80 (by decide +kernel) rfl, ?_⟩
  refine List.forall_mem_cons.mpr ⟨s_icmp_ge (off := 34) (by decide +kernel) (by decide) rfl, ?_⟩
  refine List.forall_mem_cons.mpr ⟨s_aload_n (j := 0) (by decide +kernel) rfl rfl, ?_⟩
  refine List.forall_mem_cons.mpr ⟨s_iload_n (j := 3) (by decide +kernel) rfl rfl, ?_⟩
  refine List.forall_mem_cons.mpr ⟨s_callv (idx := 55) (k' := k_X3_leadsOn) (T := TX3) (N := 7) rfl q3_194 q3_191 q3_193 qs_24 q1_6 de_X3_leadsOn (by decide) (by decide +kernel) rfl, ?_⟩
  refine List.forall_mem_cons.mpr ⟨s_if_eq (off := 20) (by decide +kernel) (by decide) rfl, ?_⟩
  refine List.forall_mem_cons.mpr ⟨s_aload_n (j := 0) (by decide +kernel) rfl rfl, ?_⟩
  refine List.forall_mem_cons.mpr ⟨s_iload_n (j := 3) (by decide +kernel) rfl rfl, ?_⟩
  refine List.forall_mem_cons.mpr ⟨s_iload_n (j := 2) (by decide +kernel) rfl rfl, ?_⟩
  refine List.forall_mem_cons.mpr ⟨s_iload_n (j := 1) (by decide +kernel) rfl rfl, ?_⟩
  refine List.forall_mem_cons.mpr ⟨s_aload_n (j := 0) (by decide +kernel) rfl rfl, ?_⟩
  refine List.forall_mem_cons.mpr ⟨s_getf (idx := 33) (C := RX3) (T := TX3) (N := 7) rfl inX3 (by decide) q1_214 (by decide +kernel) rfl, ?_⟩
  refine List.forall_mem_cons.mpr ⟨s_callv (idx := 58) (k' := k_X3_wayGoes) (T := TX3) (N := 7) rfl q3_29 q3_195 q3_27 q3_28 q1_6 de_X3_wayGoes (by decide) (by decide +kernel) rfl, ?_⟩
  refine List.forall_mem_cons.mpr ⟨s_if_eq (off := 6) (by decide +kernel) (by decide) rfl, ?_⟩
  refine List.forall_mem_cons.mpr ⟨s_bipush (by decide +kernel) (by decide) rfl, ?_⟩
  refine List.forall_mem_cons.mpr ⟨s_iret rfl (by decide +kernel), ?_⟩
  refine List.forall_mem_cons.mpr ⟨s_iinc (by decide +kernel) (by decide) rfl, ?_⟩
  refine List.forall_mem_cons.mpr ⟨s_goto (off := (-39)) (by decide +kernel) (by decide), ?_⟩
  refine List.forall_mem_cons.mpr ⟨s_iload_n (j := 2) (by decide +kernel) rfl rfl, ?_⟩
  refine List.forall_mem_cons.mpr ⟨s_iret rfl (by decide +kernel), ?_⟩
  exact fun q hq => absurd hq List.not_mem_nil
def T_X4_rise : List (Nat × zO) := [(0, o_iload 1 1), (1, o_aload 2 0), (2, o_getf 5 4 3), (5, o_icmp_ne 17 8), (8, o_iload 9 2), (9, o_aload 10 0), (10, o_getf 13 4 4), (13, o_icmp_ne 17 16), (16, o_vret), (17, o_iload 18 1), (18, o_aload 19 0), (19, o_getf 22 4 3), (22, o_icmp_eq 55 25), (25, o_const 26 0), (26, o_istore 27 3), (27, o_iload 28 3), (28, o_const 31 1440), (31, o_icmp_ge 55 34), (34, o_aload 35 0), (35, o_getf 38 4 1), (38, o_iload 39 3), (39, o_aload 40 0), (40, o_getf 43 4 0), (43, o_iload 44 1), (44, o_iload 45 3), (45, o_callv 2 2 k_X2_tideAt 48), (48, o_iast 49), (49, o_iinc 52 3 1), (52, o_goto 27), (55, o_aload 56 0), (56, o_iload 57 1), (57, o_putf 60 4 3), (60, o_aload 61 0), (61, o_iload 62 2), (62, o_putf 65 4 4), (65, o_aload 66 0), (66, o_getf 69 4 2), (69, o_const 72 (-1000)), (72, o_calls 2 k_J7_fill_53178 75), (75, o_const 76 0), (76, o_istore 77 3), (77, o_iload 78 3), (78, o_aload 79 0), (79, o_getf 82 4 0), (82, o_getf 85 2 4), (85, o_icmp_ge 124 88), (88, o_iload 89 2), (89, o_iload 90 3), (90, o_iushr 91), (91, o_const 92 1), (92, o_iand 93), (93, o_if_eq 118 96), (96, o_aload 97 0), (97, o_aload 98 0), (98, o_getf 101 4 0), (101, o_getf 104 2 5), (104, o_iload 105 3), (105, o_iald 106), (106, o_aload 107 0), (107, o_getf 110 4 0), (110, o_getf 113 2 6), (113, o_iload 114 3), (114, o_iald 115), (115, o_callv 2 4 k_X4_raise 118), (118, o_iinc 121 3 1), (121, o_goto 77), (124, o_vret)]
set_option maxRecDepth 20000 in
theorem t_X4_rise : ∀ q ∈ T_X4_rise, zS k_X4_rise q.1 q.2 := by
  unfold T_X4_rise
  refine List.forall_mem_cons.mpr ⟨s_iload_n (j := 1) (by decide +kernel) rfl rfl, ?_⟩
  refine List.forall_mem_cons.mpr ⟨s_aload_n (j := 0) (by decide +kernel) rfl rfl, ?_⟩
  refine List.forall_mem_cons.mpr ⟨s_getf (idx := 18) (C := RX4) (T := TX4) (N := 5) rfl inX4 (by decide) q1_157 (by decide +kernel) rfl, ?_⟩
  refine List.forall_mem_cons.mpr ⟨s_icmp_ne (off := 12) (by decide +kernel) (by decide) rfl, ?_⟩
  refine List.forall_mem_cons.mpr ⟨s_iload_n (j := 2) (by decide +kernel) rfl rfl, ?_⟩
  refine List.forall_mem_cons.mpr ⟨s_aload_n (j := 0) (by decide +kernel) rfl rfl, ?_⟩
  refine List.forall_mem_cons.mpr ⟨s_getf (idx := 26) (C := RX4) (T := TX4) (N := 5) rfl inX4 (by decide) q1_158 (by decide +kernel) rfl, ?_⟩
  refine List.forall_mem_cons.mpr ⟨s_icmp_ne (off := 4) (by decide +kernel) (by decide) rfl, ?_⟩
  refine List.forall_mem_cons.mpr ⟨s_vret rfl (by decide +kernel), ?_⟩
  refine List.forall_mem_cons.mpr ⟨s_iload_n (j := 1) (by decide +kernel) rfl rfl, ?_⟩
  refine List.forall_mem_cons.mpr ⟨s_aload_n (j := 0) (by decide +kernel) rfl rfl, ?_⟩
  refine List.forall_mem_cons.mpr ⟨s_getf (idx := 18) (C := RX4) (T := TX4) (N := 5) rfl inX4 (by decide) q1_157 (by decide +kernel) rfl, ?_⟩
  refine List.forall_mem_cons.mpr ⟨s_icmp_eq (off := 33) (by decide +kernel) (by decide) rfl, ?_⟩
  refine List.forall_mem_cons.mpr ⟨s_iconst (by decide +kernel) rfl, ?_⟩
  refine List.forall_mem_cons.mpr ⟨s_istore_n (j := 3) (by decide +kernel) rfl (by decide) rfl, ?_⟩
  refine List.forall_mem_cons.mpr ⟨s_iload_n (j := 3) (by decide +kernel) rfl rfl, ?_⟩
  refine List.forall_mem_cons.mpr ⟨s_sipush (by decide +kernel) (by decide) rfl, ?_⟩
  refine List.forall_mem_cons.mpr ⟨s_icmp_ge (off := 24) (by decide +kernel) (by decide) rfl, ?_⟩
  refine List.forall_mem_cons.mpr ⟨s_aload_n (j := 0) (by decide +kernel) rfl rfl, ?_⟩
  refine List.forall_mem_cons.mpr ⟨s_getf (idx := 9) (C := RX4) (T := TX4) (N := 5) rfl inX4 (by decide) q1_154 (by decide +kernel) rfl, ?_⟩
  refine List.forall_mem_cons.mpr ⟨s_iload_n (j := 3) (by decide +kernel) rfl rfl, ?_⟩
  refine List.forall_mem_cons.mpr ⟨s_aload_n (j := 0) (by decide +kernel) rfl rfl, ?_⟩
  refine List.forall_mem_cons.mpr ⟨s_getf (idx := 22) (C := RX4) (T := TX4) (N := 5) rfl inX4 (by decide) q1_153 (by decide +kernel) rfl, ?_⟩
  refine List.forall_mem_cons.mpr ⟨s_iload_n (j := 1) (by decide +kernel) rfl rfl, ?_⟩
  refine List.forall_mem_cons.mpr ⟨s_iload_n (j := 3) (by decide +kernel) rfl rfl, ?_⟩
  refine List.forall_mem_cons.mpr ⟨s_callv (idx := 29) (k' := k_X2_tideAt) (T := TX2) (N := 20) rfl q2_171 q3_16 q2_169 q2_170 q1_3 de_X2_tideAt (by decide) (by decide +kernel) rfl, ?_⟩
  refine List.forall_mem_cons.mpr ⟨s_iast (by decide +kernel) rfl, ?_⟩
  refine List.forall_mem_cons.mpr ⟨s_iinc (by decide +kernel) (by decide) rfl, ?_⟩
  refine List.forall_mem_cons.mpr ⟨s_goto (off := (-25)) (by decide +kernel) (by decide), ?_⟩
  refine List.forall_mem_cons.mpr ⟨s_aload_n (j := 0) (by decide +kernel) rfl rfl, ?_⟩
  refine List.forall_mem_cons.mpr ⟨s_iload_n (j := 1) (by decide +kernel) rfl rfl, ?_⟩
  refine List.forall_mem_cons.mpr ⟨s_putf (idx := 18) (C := RX4) (T := TX4) (N := 5) rfl inX4 tyX4_ok nmX4 (by decide) rfl (tyX4_ok 3 (by decide)) (Or.inl ⟨rfl, kdI 4 3 (by decide)⟩) q1_157 (by decide +kernel) rfl, ?_⟩
  refine List.forall_mem_cons.mpr ⟨s_aload_n (j := 0) (by decide +kernel) rfl rfl, ?_⟩
  refine List.forall_mem_cons.mpr ⟨s_iload_n (j := 2) (by decide +kernel) rfl rfl, ?_⟩
  refine List.forall_mem_cons.mpr ⟨s_putf (idx := 26) (C := RX4) (T := TX4) (N := 5) rfl inX4 tyX4_ok nmX4 (by decide) rfl (tyX4_ok 4 (by decide)) (Or.inl ⟨rfl, kdI 4 4 (by decide)⟩) q1_158 (by decide +kernel) rfl, ?_⟩
  refine List.forall_mem_cons.mpr ⟨s_aload_n (j := 0) (by decide +kernel) rfl rfl, ?_⟩
  refine List.forall_mem_cons.mpr ⟨s_getf (idx := 15) (C := RX4) (T := TX4) (N := 5) rfl inX4 (by decide) q1_155 (by decide +kernel) rfl, ?_⟩
  refine List.forall_mem_cons.mpr ⟨s_sipush (by decide +kernel) (by decide) rfl, ?_⟩
  refine List.forall_mem_cons.mpr ⟨s_calls (idx := 35) (k' := k_J7_fill_53178) q3_19 q3_17 q3_18 q1_13 de_J7_fill_53178 (by decide) (by decide +kernel) rfl, ?_⟩
  refine List.forall_mem_cons.mpr ⟨s_iconst (by decide +kernel) rfl, ?_⟩
  refine List.forall_mem_cons.mpr ⟨s_istore_n (j := 3) (by decide +kernel) rfl (by decide) rfl, ?_⟩
  refine List.forall_mem_cons.mpr ⟨s_iload_n (j := 3) (by decide +kernel) rfl rfl, ?_⟩
  refine List.forall_mem_cons.mpr ⟨s_aload_n (j := 0) (by decide +kernel) rfl rfl, ?_⟩
  refine List.forall_mem_cons.mpr ⟨s_getf (idx := 22) (C := RX4) (T := TX4) (N := 5) rfl inX4 (by decide) q1_153 (by decide +kernel) rfl, ?_⟩
  refine List.forall_mem_cons.mpr ⟨s_getf (idx := 41) (C := RX2) (T := TX2) (N := 20) rfl inX2 (by decide) q1_64 (by decide +kernel) rfl, ?_⟩
  refine List.forall_mem_cons.mpr ⟨s_icmp_ge (off := 39) (by decide +kernel) (by decide) rfl, ?_⟩
  refine List.forall_mem_cons.mpr ⟨s_iload_n (j := 2) (by decide +kernel) rfl rfl, ?_⟩
  refine List.forall_mem_cons.mpr ⟨s_iload_n (j := 3) (by decide +kernel) rfl rfl, ?_⟩
  refine List.forall_mem_cons.mpr ⟨s_iushr (by decide +kernel) rfl, ?_⟩
  refine List.forall_mem_cons.mpr ⟨s_iconst (by decide +kernel) rfl, ?_⟩
  refine List.forall_mem_cons.mpr ⟨s_iand (by decide +kernel) rfl, ?_⟩
  refine List.forall_mem_cons.mpr ⟨s_if_eq (off := 25) (by decide +kernel) (by decide) rfl, ?_⟩
  refine List.forall_mem_cons.mpr ⟨s_aload_n (j := 0) (by decide +kernel) rfl rfl, ?_⟩
  refine List.forall_mem_cons.mpr ⟨s_aload_n (j := 0) (by decide +kernel) rfl rfl, ?_⟩
  refine List.forall_mem_cons.mpr ⟨s_getf (idx := 22) (C := RX4) (T := TX4) (N := 5) rfl inX4 (by decide) q1_153 (by decide +kernel) rfl, ?_⟩
  refine List.forall_mem_cons.mpr ⟨s_getf (idx := 44) (C := RX2) (T := TX2) (N := 20) rfl inX2 (by decide) q1_67 (by decide +kernel) rfl, ?_⟩
  refine List.forall_mem_cons.mpr ⟨s_iload_n (j := 3) (by decide +kernel) rfl rfl, ?_⟩
  refine List.forall_mem_cons.mpr ⟨s_iald (by decide +kernel) rfl, ?_⟩
  refine List.forall_mem_cons.mpr ⟨s_aload_n (j := 0) (by decide +kernel) rfl rfl, ?_⟩
  refine List.forall_mem_cons.mpr ⟨s_getf (idx := 22) (C := RX4) (T := TX4) (N := 5) rfl inX4 (by decide) q1_153 (by decide +kernel) rfl, ?_⟩
  refine List.forall_mem_cons.mpr ⟨s_getf (idx := 47) (C := RX2) (T := TX2) (N := 20) rfl inX2 (by decide) q1_69 (by decide +kernel) rfl, ?_⟩
  refine List.forall_mem_cons.mpr ⟨s_iload_n (j := 3) (by decide +kernel) rfl rfl, ?_⟩
  refine List.forall_mem_cons.mpr ⟨s_iald (by decide +kernel) rfl, ?_⟩
  refine List.forall_mem_cons.mpr ⟨s_callv (idx := 50) (k' := k_X4_raise) (T := TX4) (N := 5) rfl q3_23 q3_20 q3_22 qs_10 q1_4 de_X4_raise (by decide) (by decide +kernel) rfl, ?_⟩
  refine List.forall_mem_cons.mpr ⟨s_iinc (by decide +kernel) (by decide) rfl, ?_⟩
  refine List.forall_mem_cons.mpr ⟨s_goto (off := (-44)) (by decide +kernel) (by decide), ?_⟩
  refine List.forall_mem_cons.mpr ⟨s_vret rfl (by decide +kernel), ?_⟩
  exact fun q hq => absurd hq List.not_mem_nil
def T_X4_raise : List (Nat × zO) := [(0, o_const 1 0), (1, o_istore 2 3), (2, o_iload 3 3), (3, o_const 6 1440), (6, o_icmp_ge 54 9), (9, o_const 10 0), (10, o_const 13 1439), (13, o_iload 14 3), (14, o_iload 15 2), (15, o_iadd 16), (16, o_mmin 19), (19, o_mmax 22), (22, o_istore 24 4), (24, o_aload 25 0), (25, o_getf 28 4 2), (28, o_iload 29 3), (29, o_aload 30 0), (30, o_getf 33 4 2), (33, o_iload 34 3), (34, o_iald 35), (35, o_aload 36 0), (36, o_getf 39 4 1), (39, o_iload 41 4), (41, o_iald 42), (42, o_iload 43 1), (43, o_iadd 44), (44, o_mmax 47), (47, o_iast 48), (48, o_iinc 51 3 1), (51, o_goto 2), (54, o_vret)]
set_option maxRecDepth 20000 in
theorem t_X4_raise : ∀ q ∈ T_X4_raise, zS k_X4_raise q.1 q.2 := by
  unfold T_X4_raise
  refine List.forall_mem_cons.mpr ⟨s_iconst (by decide +kernel) rfl, ?_⟩
  refine List.forall_mem_cons.mpr ⟨s_istore_n (j := 3) (by decide +kernel) rfl (by decide) rfl, ?_⟩
  refine List.forall_mem_cons.mpr ⟨s_iload_n (j := 3) (by decide +kernel) rfl rfl, ?_⟩
  refine List.forall_mem_cons.mpr ⟨s_sipush (by decide +kernel) (by decide) rfl, ?_⟩
  refine List.forall_mem_cons.mpr ⟨s_icmp_ge (off := 48) (by decide +kernel) (by decide) rfl, ?_⟩
  refine List.forall_mem_cons.mpr ⟨s_iconst (by decide +kernel) rfl, ?_⟩
  refine List.forall_mem_cons.mpr ⟨s_sipush (by decide +kernel) (by decide) rfl, ?_⟩
  refine List.forall_mem_cons.mpr ⟨s_iload_n (j := 3) (by decide +kernel) rfl rfl, ?_⟩
  refine List.forall_mem_cons.mpr ⟨s_iload_n (j := 2) (by decide +kernel) rfl rfl, ?_⟩
  refine List.forall_mem_cons.mpr ⟨s_iadd (by decide +kernel) rfl, ?_⟩
  refine List.forall_mem_cons.mpr ⟨s_mmin (idx := 54) q3_24 q2_163b q1_12b qminC (by decide +kernel) rfl, ?_⟩
  refine List.forall_mem_cons.mpr ⟨s_mmax (idx := 59) q3_25 q2_166b q1_12b qmaxC (by decide +kernel) rfl, ?_⟩
  refine List.forall_mem_cons.mpr ⟨s_istore (by decide +kernel) (by decide) rfl, ?_⟩
  refine List.forall_mem_cons.mpr ⟨s_aload_n (j := 0) (by decide +kernel) rfl rfl, ?_⟩
  refine List.forall_mem_cons.mpr ⟨s_getf (idx := 15) (C := RX4) (T := TX4) (N := 5) rfl inX4 (by decide) q1_155 (by decide +kernel) rfl, ?_⟩
  refine List.forall_mem_cons.mpr ⟨s_iload_n (j := 3) (by decide +kernel) rfl rfl, ?_⟩
  refine List.forall_mem_cons.mpr ⟨s_aload_n (j := 0) (by decide +kernel) rfl rfl, ?_⟩
  refine List.forall_mem_cons.mpr ⟨s_getf (idx := 15) (C := RX4) (T := TX4) (N := 5) rfl inX4 (by decide) q1_155 (by decide +kernel) rfl, ?_⟩
  refine List.forall_mem_cons.mpr ⟨s_iload_n (j := 3) (by decide +kernel) rfl rfl, ?_⟩
  refine List.forall_mem_cons.mpr ⟨s_iald (by decide +kernel) rfl, ?_⟩
  refine List.forall_mem_cons.mpr ⟨s_aload_n (j := 0) (by decide +kernel) rfl rfl, ?_⟩
  refine List.forall_mem_cons.mpr ⟨s_getf (idx := 9) (C := RX4) (T := TX4) (N := 5) rfl inX4 (by decide) q1_154 (by decide +kernel) rfl, ?_⟩
  refine List.forall_mem_cons.mpr ⟨s_iload (by decide +kernel) rfl, ?_⟩
  refine List.forall_mem_cons.mpr ⟨s_iald (by decide +kernel) rfl, ?_⟩
  refine List.forall_mem_cons.mpr ⟨s_iload_n (j := 1) (by decide +kernel) rfl rfl, ?_⟩
  refine List.forall_mem_cons.mpr ⟨s_iadd (by decide +kernel) rfl, ?_⟩
  refine List.forall_mem_cons.mpr ⟨s_mmax (idx := 59) q3_25 q2_166b q1_12b qmaxC (by decide +kernel) rfl, ?_⟩
  refine List.forall_mem_cons.mpr ⟨s_iast (by decide +kernel) rfl, ?_⟩
  refine List.forall_mem_cons.mpr ⟨s_iinc (by decide +kernel) (by decide) rfl, ?_⟩
  refine List.forall_mem_cons.mpr ⟨s_goto (off := (-49)) (by decide +kernel) (by decide), ?_⟩
  refine List.forall_mem_cons.mpr ⟨s_vret rfl (by decide +kernel), ?_⟩
  exact fun q hq => absurd hq List.not_mem_nil
def T_X4_firstAbove : List (Nat × zO) := [(0, o_iload 1 2), (1, o_istore 2 3), (2, o_iload 3 3), (3, o_const 6 1440), (6, o_icmp_ge 25 9), (9, o_aload 10 0), (10, o_getf 13 4 2), (13, o_iload 14 3), (14, o_iald 15), (15, o_iload 16 1), (16, o_icmp_gt 25 19), (19, o_iinc 22 3 1), (22, o_goto 2), (25, o_iload 26 3), (26, o_iret)]
set_option maxRecDepth 20000 in
theorem t_X4_firstAbove : ∀ q ∈ T_X4_firstAbove, zS k_X4_firstAbove q.1 q.2 := by
  unfold T_X4_firstAbove
  refine List.forall_mem_cons.mpr ⟨s_iload_n (j := 2) (by decide +kernel) rfl rfl, ?_⟩
  refine List.forall_mem_cons.mpr ⟨s_istore_n (j := 3) (by decide +kernel) rfl (by decide) rfl, ?_⟩
  refine List.forall_mem_cons.mpr ⟨s_iload_n (j := 3) (by decide +kernel) rfl rfl, ?_⟩
  refine List.forall_mem_cons.mpr ⟨s_sipush (by decide +kernel) (by decide) rfl, ?_⟩
  refine List.forall_mem_cons.mpr ⟨s_icmp_ge (off := 19) (by decide +kernel) (by decide) rfl, ?_⟩
  refine List.forall_mem_cons.mpr ⟨s_aload_n (j := 0) (by decide +kernel) rfl rfl, ?_⟩
  refine List.forall_mem_cons.mpr ⟨s_getf (idx := 15) (C := RX4) (T := TX4) (N := 5) rfl inX4 (by decide) q1_155 (by decide +kernel) rfl, ?_⟩
  refine List.forall_mem_cons.mpr ⟨s_iload_n (j := 3) (by decide +kernel) rfl rfl, ?_⟩
  refine List.forall_mem_cons.mpr ⟨s_iald (by decide +kernel) rfl, ?_⟩
  refine List.forall_mem_cons.mpr ⟨s_iload_n (j := 1) (by decide +kernel) rfl rfl, ?_⟩
  refine List.forall_mem_cons.mpr ⟨s_icmp_gt (off := 9) (by decide +kernel) (by decide) rfl, ?_⟩
  refine List.forall_mem_cons.mpr ⟨s_iinc (by decide +kernel) (by decide) rfl, ?_⟩
  refine List.forall_mem_cons.mpr ⟨s_goto (off := (-20)) (by decide +kernel) (by decide), ?_⟩
  refine List.forall_mem_cons.mpr ⟨s_iload_n (j := 3) (by decide +kernel) rfl rfl, ?_⟩
  refine List.forall_mem_cons.mpr ⟨s_iret rfl (by decide +kernel), ?_⟩
  exact fun q hq => absurd hq List.not_mem_nil
def T_X5_prepare : List (Nat × zO) := [(0, o_aload 1 0), (1, o_getf 4 5 1), (4, o_iload 5 1), (5, o_const 7 10), (7, o_irem 8), (8, o_iload 9 2), (9, o_callv 2 4 k_X4_rise 12), (12, o_aload 13 0), (13, o_lconst 16 (-1)), (16, o_putf 19 5 6), (19, o_const 20 0), (20, o_istore 21 3), (21, o_iload 22 3), (22, o_aload 23 0), (23, o_getf 26 5 0), (26, o_getf 29 2 10), (29, o_icmp_ge 78 32), (32, o_const 33 0), (33, o_istore 35 4), (35, o_iload 37 4), (37, o_const 38 3), (38, o_icmp_gt 72 41), (41, o_aload 42 0), (42, o_getf 45 5 4), (45, o_const 46 4), (46, o_iload 47 3), (47, o_imul 48), (48, o_iload 50 4), (50, o_iadd 51), (51, o_aload 52 0), (52, o_getf 55 5 0), (55, o_iload 56 3), (56, o_iload 57 1), (57, o_const 59 10), (59, o_idiv 60), (60, o_iload 62 4), (62, o_callv 3 2 k_X2_taking 65), (65, o_iast 66), (66, o_iinc 69 4 1), (69, o_goto 35), (72, o_iinc 75 3 1), (75, o_goto 21), (78, o_vret)]
set_option maxRecDepth 20000 in
theorem t_X5_prepare : ∀ q ∈ T_X5_prepare, zS k_X5_prepare q.1 q.2 := by
  unfold T_X5_prepare
  refine List.forall_mem_cons.mpr ⟨s_aload_n (j := 0) (by decide +kernel) rfl rfl, ?_⟩
  refine List.forall_mem_cons.mpr ⟨s_getf (idx := 29) (C := RX5) (T := TX5) (N := 7) rfl inX5 (by decide) q1_177 (by decide +kernel) rfl, ?_⟩
  refine List.forall_mem_cons.mpr ⟨s_iload_n (j := 1) (by decide +kernel) rfl rfl, ?_⟩
  refine List.forall_mem_cons.mpr ⟨s_bipush (by decide +kernel) (by decide) rfl, ?_⟩
  refine List.forall_mem_cons.mpr ⟨s_irem (by decide +kernel) rfl, ?_⟩
  refine List.forall_mem_cons.mpr ⟨s_iload_n (j := 2) (by decide +kernel) rfl rfl, ?_⟩
  refine List.forall_mem_cons.mpr ⟨s_callv (idx := 33) (k' := k_X4_rise) (T := TX4) (N := 5) rfl q3_15 q3_47 q3_13 q3_14 q1_4 de_X4_rise (by decide) (by decide +kernel) rfl, ?_⟩
  refine List.forall_mem_cons.mpr ⟨s_aload_n (j := 0) (by decide +kernel) rfl rfl, ?_⟩
  refine List.forall_mem_cons.mpr ⟨s_ldc2 (idx := 39) (y := (-1)) (by decide +kernel) q3_48 rfl, ?_⟩
  refine List.forall_mem_cons.mpr ⟨s_putf (idx := 41) (C := RX5) (T := TX5) (N := 7) rfl inX5 tyX5_ok nmX5 (by decide) rfl (tyX5_ok 6 (by decide)) (Or.inr ⟨rfl, kdL 5 6 (by decide)⟩) q1_182 (by decide +kernel) rfl, ?_⟩
  refine List.forall_mem_cons.mpr ⟨s_iconst (by decide +kernel) rfl, ?_⟩
  refine List.forall_mem_cons.mpr ⟨s_istore_n (j := 3) (by decide +kernel) rfl (by decide) rfl, ?_⟩
  refine List.forall_mem_cons.mpr ⟨s_iload_n (j := 3) (by decide +kernel) rfl rfl, ?_⟩
  refine List.forall_mem_cons.mpr ⟨s_aload_n (j := 0) (by decide +kernel) rfl rfl, ?_⟩
  refine List.forall_mem_cons.mpr ⟨s_getf (idx := 25) (C := RX5) (T := TX5) (N := 7) rfl inX5 (by decide) q1_176 (by decide +kernel) rfl, ?_⟩
  refine List.forall_mem_cons.mpr ⟨s_getf (idx := 45) (C := RX2) (T := TX2) (N := 20) rfl inX2 (by decide) q1_77 (by decide +kernel) rfl, ?_⟩
  refine List.forall_mem_cons.mpr ⟨s_icmp_ge (off := 49) (by decide +kernel) (by decide) rfl, ?_⟩
  refine List.forall_mem_cons.mpr ⟨s_iconst (by decide +kernel) rfl, ?_⟩
  refine List.forall_mem_cons.mpr ⟨s_istore (by decide +kernel) (by decide) rfl, ?_⟩
  refine List.forall_mem_cons.mpr ⟨s_iload (by decide +kernel) rfl, ?_⟩
  refine List.forall_mem_cons.mpr ⟨s_iconst (by decide +kernel) rfl, ?_⟩
  refine List.forall_mem_cons.mpr ⟨s_icmp_gt (off := 34) (by decide +kernel) (by decide) rfl, ?_⟩
  refine List.forall_mem_cons.mpr ⟨s_aload_n (j := 0) (by decide +kernel) rfl rfl, ?_⟩
  refine List.forall_mem_cons.mpr ⟨s_getf (idx := 18) (C := RX5) (T := TX5) (N := 7) rfl inX5 (by decide) q1_180 (by decide +kernel) rfl, ?_⟩
  refine List.forall_mem_cons.mpr ⟨s_iconst (by decide +kernel) rfl, ?_⟩
  refine List.forall_mem_cons.mpr ⟨s_iload_n (j := 3) (by decide +kernel) rfl rfl, ?_⟩
  refine List.forall_mem_cons.mpr ⟨s_imul (by decide +kernel) rfl, ?_⟩
  refine List.forall_mem_cons.mpr ⟨s_iload (by decide +kernel) rfl, ?_⟩
  refine List.forall_mem_cons.mpr ⟨s_iadd (by decide +kernel) rfl, ?_⟩
  refine List.forall_mem_cons.mpr ⟨s_aload_n (j := 0) (by decide +kernel) rfl rfl, ?_⟩
  refine List.forall_mem_cons.mpr ⟨s_getf (idx := 25) (C := RX5) (T := TX5) (N := 7) rfl inX5 (by decide) q1_176 (by decide +kernel) rfl, ?_⟩
  refine List.forall_mem_cons.mpr ⟨s_iload_n (j := 3) (by decide +kernel) rfl rfl, ?_⟩
  refine List.forall_mem_cons.mpr ⟨s_iload_n (j := 1) (by decide +kernel) rfl rfl, ?_⟩
  refine List.forall_mem_cons.mpr ⟨s_bipush (by decide +kernel) (by decide) rfl, ?_⟩
  refine List.forall_mem_cons.mpr ⟨s_idiv (by decide +kernel) rfl, ?_⟩
  refine List.forall_mem_cons.mpr ⟨s_iload (by decide +kernel) rfl, ?_⟩
  refine List.forall_mem_cons.mpr ⟨s_callv (idx := 51) (k' := k_X2_taking) (T := TX2) (N := 20) rfl q2_235 q3_49 q2_233 q2_234 q1_3 de_X2_taking (by decide) (by decide +kernel) rfl, ?_⟩
  refine List.forall_mem_cons.mpr ⟨s_iast (by decide +kernel) rfl, ?_⟩
  refine List.forall_mem_cons.mpr ⟨s_iinc (by decide +kernel) (by decide) rfl, ?_⟩
  refine List.forall_mem_cons.mpr ⟨s_goto (off := (-34)) (by decide +kernel) (by decide), ?_⟩
  refine List.forall_mem_cons.mpr ⟨s_iinc (by decide +kernel) (by decide) rfl, ?_⟩
  refine List.forall_mem_cons.mpr ⟨s_goto (off := (-54)) (by decide +kernel) (by decide), ?_⟩
  refine List.forall_mem_cons.mpr ⟨s_vret rfl (by decide +kernel), ?_⟩
  exact fun q hq => absurd hq List.not_mem_nil
def T_X5_barWaiting : List (Nat × zO) := [(0, o_aload 1 0), (1, o_lconst 4 (15)), (4, o_const 5 4), (5, o_iload 6 1), (6, o_imul 7), (7, o_lshl 8), (8, o_lconst 11 (-1)), (11, o_lxor 12), (12, o_putf 15 5 6), (15, o_vret)]
set_option maxRecDepth 20000 in
theorem t_X5_barWaiting : ∀ q ∈ T_X5_barWaiting, zS k_X5_barWaiting q.1 q.2 := by
  unfold T_X5_barWaiting
  refine List.forall_mem_cons.mpr ⟨s_aload_n (j := 0) (by decide +kernel) rfl rfl, ?_⟩
  refine List.forall_mem_cons.mpr ⟨s_ldc2 (idx := 54) (y := (15)) (by decide +kernel) q3_54 rfl, ?_⟩
  refine List.forall_mem_cons.mpr ⟨s_iconst (by decide +kernel) rfl, ?_⟩
  refine List.forall_mem_cons.mpr ⟨s_iload_n (j := 1) (by decide +kernel) rfl rfl, ?_⟩
  refine List.forall_mem_cons.mpr ⟨s_imul (by decide +kernel) rfl, ?_⟩
  refine List.forall_mem_cons.mpr ⟨s_lshl (by decide +kernel) rfl, ?_⟩
  refine List.forall_mem_cons.mpr ⟨s_ldc2 (idx := 39) (y := (-1)) (by decide +kernel) q3_48 rfl, ?_⟩
  refine List.forall_mem_cons.mpr ⟨s_lxor (by decide +kernel) rfl, ?_⟩
  refine List.forall_mem_cons.mpr ⟨s_putf (idx := 41) (C := RX5) (T := TX5) (N := 7) rfl inX5 tyX5_ok nmX5 (by decide) rfl (tyX5_ok 6 (by decide)) (Or.inr ⟨rfl, kdL 5 6 (by decide)⟩) q1_182 (by decide +kernel) rfl, ?_⟩
  refine List.forall_mem_cons.mpr ⟨s_vret rfl (by decide +kernel), ?_⟩
  exact fun q hq => absurd hq List.not_mem_nil
def T_X5_soonest : List (Nat × zO) := [(0, o_aload 1 0), (1, o_aload 2 0), (2, o_getf 5 5 2), (5, o_iload 6 1), (6, o_lconst 9 (15)), (9, o_const 10 4), (10, o_iload 11 2), (11, o_imul 12), (12, o_lshl 13), (13, o_iload 14 3), (14, o_callv 4 5 k_X5_spread 17), (17, o_iret)]
set_option maxRecDepth 20000 in
theorem t_X5_soonest : ∀ q ∈ T_X5_soonest, zS k_X5_soonest q.1 q.2 := by
  unfold T_X5_soonest
  refine List.forall_mem_cons.mpr ⟨s_aload_n (j := 0) (by decide +kernel) rfl rfl, ?_⟩
  refine List.forall_mem_cons.mpr ⟨s_aload_n (j := 0) (by decide +kernel) rfl rfl, ?_⟩
  refine List.forall_mem_cons.mpr ⟨s_getf (idx := 9) (C := RX5) (T := TX5) (N := 7) rfl inX5 (by decide) q1_178 (by decide +kernel) rfl, ?_⟩
  refine List.forall_mem_cons.mpr ⟨s_iload_n (j := 1) (by decide +kernel) rfl rfl, ?_⟩
  refine List.forall_mem_cons.mpr ⟨s_ldc2 (idx := 54) (y := (15)) (by decide +kernel) q3_54 rfl, ?_⟩
  refine List.forall_mem_cons.mpr ⟨s_iconst (by decide +kernel) rfl, ?_⟩
  refine List.forall_mem_cons.mpr ⟨s_iload_n (j := 2) (by decide +kernel) rfl rfl, ?_⟩
  refine List.forall_mem_cons.mpr ⟨s_imul (by decide +kernel) rfl, ?_⟩
  refine List.forall_mem_cons.mpr ⟨s_lshl (by decide +kernel) rfl, ?_⟩
  refine List.forall_mem_cons.mpr ⟨s_iload_n (j := 3) (by decide +kernel) rfl rfl, ?_⟩
  refine List.forall_mem_cons.mpr ⟨s_callv (idx := 56) (k' := k_X5_spread) (T := TX5) (N := 7) rfl q3_58 q3_55 q3_57 qs_12 q1_5 de_X5_spread (by decide) (by decide +kernel) rfl, ?_⟩
  refine List.forall_mem_cons.mpr ⟨s_iret rfl (by decide +kernel), ?_⟩
  exact fun q hq => absurd hq List.not_mem_nil
def T_X5_isThere : List (Nat × zO) := [(0, o_iload 1 2), (1, o_const 4 10000), (4, o_irem 5), (5, o_istore 6 3), (6, o_aload 7 0), (7, o_aload 8 0), (8, o_getf 11 5 2), (11, o_iload 12 1), (12, o_lconst 13 0), (13, o_iload 14 3), (14, o_callv 4 5 k_X5_spread 17), (17, o_pop 18), (18, o_aload 19 0), (19, o_getf 22 5 2), (22, o_iload 23 3), (23, o_lald 24), (24, o_lconst 27 (15)), (27, o_const 28 4), (28, o_iload 29 2), (29, o_const 32 10000), (32, o_idiv 33), (33, o_imul 34), (34, o_lshl 35), (35, o_land 36), (36, o_lconst 37 0), (37, o_lcmp 38), (38, o_if_eq 45 41), (41, o_const 42 1), (42, o_goto 46), (45, o_const 46 0), (46, o_zret)]
set_option maxRecDepth 20000 in
theorem t_X5_isThere : ∀ q ∈ T_X5_isThere, zS k_X5_isThere q.1 q.2 := by
  unfold T_X5_isThere
  refine List.forall_mem_cons.mpr ⟨s_iload_n (j := 2) (by decide +kernel) rfl rfl, ?_⟩
  refine List.forall_mem_cons.mpr ⟨s_sipush (by decide +kernel) (by decide) rfl, ?_⟩
  refine List.forall_mem_cons.mpr ⟨s_irem (by decide +kernel) rfl, ?_⟩
  refine List.forall_mem_cons.mpr ⟨s_istore_n (j := 3) (by decide +kernel) rfl (by decide) rfl, ?_⟩
  refine List.forall_mem_cons.mpr ⟨s_aload_n (j := 0) (by decide +kernel) rfl rfl, ?_⟩
  refine List.forall_mem_cons.mpr ⟨s_aload_n (j := 0) (by decide +kernel) rfl rfl, ?_⟩
  refine List.forall_mem_cons.mpr ⟨s_getf (idx := 9) (C := RX5) (T := TX5) (N := 7) rfl inX5 (by decide) q1_178 (by decide +kernel) rfl, ?_⟩
  refine List.forall_mem_cons.mpr ⟨s_iload_n (j := 1) (by decide +kernel) rfl rfl, ?_⟩
  refine List.forall_mem_cons.mpr ⟨s_lconst (z := 0) (by decide +kernel) (by decide) rfl, ?_⟩
  refine List.forall_mem_cons.mpr ⟨s_iload_n (j := 3) (by decide +kernel) rfl rfl, ?_⟩
  refine List.forall_mem_cons.mpr ⟨s_callv (idx := 56) (k' := k_X5_spread) (T := TX5) (N := 7) rfl q3_58 q3_55 q3_57 qs_12 q1_5 de_X5_spread (by decide) (by decide +kernel) rfl, ?_⟩
  refine List.forall_mem_cons.mpr ⟨s_pop (by decide +kernel) rfl, ?_⟩
  refine List.forall_mem_cons.mpr ⟨s_aload_n (j := 0) (by decide +kernel) rfl rfl, ?_⟩
  refine List.forall_mem_cons.mpr ⟨s_getf (idx := 9) (C := RX5) (T := TX5) (N := 7) rfl inX5 (by decide) q1_178 (by decide +kernel) rfl, ?_⟩
  refine List.forall_mem_cons.mpr ⟨s_iload_n (j := 3) (by decide +kernel) rfl rfl, ?_⟩
  refine List.forall_mem_cons.mpr ⟨s_lald (by decide +kernel) rfl, ?_⟩
  refine List.forall_mem_cons.mpr ⟨s_ldc2 (idx := 54) (y := (15)) (by decide +kernel) q3_54 rfl, ?_⟩
  refine List.forall_mem_cons.mpr ⟨s_iconst (by decide +kernel) rfl, ?_⟩
  refine List.forall_mem_cons.mpr ⟨s_iload_n (j := 2) (by decide +kernel) rfl rfl, ?_⟩
  refine List.forall_mem_cons.mpr ⟨s_sipush (by decide +kernel) (by decide) rfl, ?_⟩
  refine List.forall_mem_cons.mpr ⟨s_idiv (by decide +kernel) rfl, ?_⟩
  refine List.forall_mem_cons.mpr ⟨s_imul (by decide +kernel) rfl, ?_⟩
  refine List.forall_mem_cons.mpr ⟨s_lshl (by decide +kernel) rfl, ?_⟩
  refine List.forall_mem_cons.mpr ⟨s_land (by decide +kernel) rfl, ?_⟩
  refine List.forall_mem_cons.mpr ⟨s_lconst (z := 0) (by decide +kernel) (by decide) rfl, ?_⟩
  refine List.forall_mem_cons.mpr ⟨s_lcmp (by decide +kernel) rfl, ?_⟩
  refine List.forall_mem_cons.mpr ⟨s_if_eq (off := 7) (by decide +kernel) (by decide) rfl, ?_⟩
  refine List.forall_mem_cons.mpr ⟨s_iconst (by decide +kernel) rfl, ?_⟩
  refine List.forall_mem_cons.mpr ⟨s_goto (off := 4) (by decide +kernel) (by decide), ?_⟩
  refine List.forall_mem_cons.mpr ⟨s_iconst (by decide +kernel) rfl, ?_⟩
  refine List.forall_mem_cons.mpr ⟨s_zret rfl (by decide +kernel), ?_⟩
  exact fun q hq => absurd hq List.not_mem_nil
def T_X5_meeting : List (Nat × zO) := [(0, o_aload 1 0), (1, o_aload 2 0), (2, o_getf 5 5 2), (5, o_iload 6 1), (6, o_lconst 7 0), (7, o_const 10 1439), (10, o_callv 4 5 k_X5_spread 13), (13, o_pop 14), (14, o_aload 15 0), (15, o_aload 16 0), (16, o_getf 19 5 3), (19, o_iload 20 2), (20, o_lconst 21 0), (21, o_const 24 1439), (24, o_callv 4 5 k_X5_spread 27), (27, o_pop 28), (28, o_iload 29 1), (29, o_const 32 10000), (32, o_irem 33), (33, o_iload 34 2), (34, o_const 37 10000), (37, o_irem 38), (38, o_mmax 41), (41, o_istore 42 3), (42, o_iload 43 3), (43, o_const 46 1440), (46, o_icmp_ge 123 49), (49, o_const 50 0), (50, o_istore 52 4), (52, o_iload 54 4), (54, o_aload 55 0), (55, o_getf 58 5 0), (58, o_getf 61 2 8), (61, o_icmp_ge 117 64), (64, o_lconst 67 (15)), (67, o_const 68 4), (68, o_iload 70 4), (70, o_imul 71), (71, o_lshl 72), (72, o_lstore 74 5), (74, o_aload 75 0), (75, o_getf 78 5 2), (78, o_iload 79 3), (79, o_lald 80), (80, o_lload 82 5), (82, o_land 83), (83, o_lconst 84 0), (84, o_lcmp 85), (85, o_if_eq 111 88), (88, o_aload 89 0), (89, o_getf 92 5 3), (92, o_iload 93 3), (93, o_lald 94), (94, o_lload 96 5), (96, o_land 97), (97, o_lconst 98 0), (98, o_lcmp 99), (99, o_if_eq 111 102), (102, o_const 105 10000), (105, o_iload 107 4), (107, o_imul 108), (108, o_iload 109 3), (109, o_iadd 110), (110, o_iret), (111, o_iinc 114 4 1), (114, o_goto 52), (117, o_iinc 120 3 1), (120, o_goto 42), (123, o_const 125 (-2)), (125, o_iret)]
set_option maxRecDepth 20000 in
theorem t_X5_meeting : ∀ q ∈ T_X5_meeting, zS k_X5_meeting q.1 q.2 := by
  unfold T_X5_meeting
  refine List.forall_mem_cons.mpr ⟨s_aload_n (j := 0) (by decide +kernel) rfl rfl, ?_⟩
  refine List.forall_mem_cons.mpr ⟨s_aload_n (j := 0) (by decide +kernel) rfl rfl, ?_⟩
  refine List.forall_mem_cons.mpr ⟨s_getf (idx := 9) (C := RX5) (T := TX5) (N := 7) rfl inX5 (by decide) q1_178 (by decide +kernel) rfl, ?_⟩
  refine List.forall_mem_cons.mpr ⟨s_iload_n (j := 1) (by decide +kernel) rfl rfl, ?_⟩
  refine List.forall_mem_cons.mpr ⟨s_lconst (z := 0) (by decide +kernel) (by decide) rfl, ?_⟩
  refine List.forall_mem_cons.mpr ⟨s_sipush (by decide +kernel) (by decide) rfl, ?_⟩
  refine List.forall_mem_cons.mpr ⟨s_callv (idx := 56) (k' := k_X5_spread) (T := TX5) (N := 7) rfl q3_58 q3_55 q3_57 qs_12 q1_5 de_X5_spread (by decide) (by decide +kernel) rfl, ?_⟩
  refine List.forall_mem_cons.mpr ⟨s_pop (by decide +kernel) rfl, ?_⟩
  refine List.forall_mem_cons.mpr ⟨s_aload_n (j := 0) (by decide +kernel) rfl rfl, ?_⟩
  refine List.forall_mem_cons.mpr ⟨s_aload_n (j := 0) (by decide +kernel) rfl rfl, ?_⟩
  refine List.forall_mem_cons.mpr ⟨s_getf (idx := 15) (C := RX5) (T := TX5) (N := 7) rfl inX5 (by decide) q1_179 (by decide +kernel) rfl, ?_⟩
  refine List.forall_mem_cons.mpr ⟨s_iload_n (j := 2) (by decide +kernel) rfl rfl, ?_⟩
  refine List.forall_mem_cons.mpr ⟨s_lconst (z := 0) (by decide +kernel) (by decide) rfl, ?_⟩
  refine List.forall_mem_cons.mpr ⟨s_sipush (by decide +kernel) (by decide) rfl, ?_⟩
  refine List.forall_mem_cons.mpr ⟨s_callv (idx := 56) (k' := k_X5_spread) (T := TX5) (N := 7) rfl q3_58 q3_55 q3_57 qs_12 q1_5 de_X5_spread (by decide) (by decide +kernel) rfl, ?_⟩
  refine List.forall_mem_cons.mpr ⟨s_pop (by decide +kernel) rfl, ?_⟩
  refine List.forall_mem_cons.mpr ⟨s_iload_n (j := 1) (by decide +kernel) rfl rfl, ?_⟩
  refine List.forall_mem_cons.mpr ⟨s_sipush (by decide +kernel) (by decide) rfl, ?_⟩
  refine List.forall_mem_cons.mpr ⟨s_irem (by decide +kernel) rfl, ?_⟩
  refine List.forall_mem_cons.mpr ⟨s_iload_n (j := 2) (by decide +kernel) rfl rfl, ?_⟩
  refine List.forall_mem_cons.mpr ⟨s_sipush (by decide +kernel) (by decide) rfl, ?_⟩
  refine List.forall_mem_cons.mpr ⟨s_irem (by decide +kernel) rfl, ?_⟩
  refine List.forall_mem_cons.mpr ⟨s_mmax (idx := 60) q3_67 q2_166b q1_12b qmaxC (by decide +kernel) rfl, ?_⟩
  refine List.forall_mem_cons.mpr ⟨s_istore_n (j := 3) (by decide +kernel) rfl (by decide) rfl, ?_⟩
  refine List.forall_mem_cons.mpr ⟨s_iload_n (j := 3) (by decide +kernel) rfl rfl, ?_⟩
  refine List.forall_mem_cons.mpr ⟨s_sipush (by decide +kernel) (by decide) rfl, ?_⟩
  refine List.forall_mem_cons.mpr ⟨s_icmp_ge (off := 77) (by decide +kernel) (by decide) rfl, ?_⟩
  refine List.forall_mem_cons.mpr ⟨s_iconst (by decide +kernel) rfl, ?_⟩
  refine List.forall_mem_cons.mpr ⟨s_istore (by decide +kernel) (by decide) rfl, ?_⟩
  refine List.forall_mem_cons.mpr ⟨s_iload (by decide +kernel) rfl, ?_⟩
  refine List.forall_mem_cons.mpr ⟨s_aload_n (j := 0) (by decide +kernel) rfl rfl, ?_⟩
  refine List.forall_mem_cons.mpr ⟨s_getf (idx := 25) (C := RX5) (T := TX5) (N := 7) rfl inX5 (by decide) q1_176 (by decide +kernel) rfl, ?_⟩
  refine List.forall_mem_cons.mpr ⟨s_getf (idx := 66) (C := RX2) (T := TX2) (N := 20) rfl inX2 (by decide) q1_72 (by decide +kernel) rfl, ?_⟩
  refine List.forall_mem_cons.mpr ⟨s_icmp_ge (off := 56) (by decide +kernel) (by decide) rfl, ?_⟩
  refine List.forall_mem_cons.mpr ⟨s_ldc2 (idx := 54) (y := (15)) (by decide +kernel) q3_54 rfl, ?_⟩
  refine List.forall_mem_cons.mpr ⟨s_iconst (by decide +kernel) rfl, ?_⟩
  refine List.forall_mem_cons.mpr ⟨s_iload (by decide +kernel) rfl, ?_⟩
  refine List.forall_mem_cons.mpr ⟨s_imul (by decide +kernel) rfl, ?_⟩
  refine List.forall_mem_cons.mpr ⟨s_lshl (by decide +kernel) rfl, ?_⟩
  refine List.forall_mem_cons.mpr ⟨s_lstore (by decide +kernel) (by decide) rfl, ?_⟩
  refine List.forall_mem_cons.mpr ⟨s_aload_n (j := 0) (by decide +kernel) rfl rfl, ?_⟩
  refine List.forall_mem_cons.mpr ⟨s_getf (idx := 9) (C := RX5) (T := TX5) (N := 7) rfl inX5 (by decide) q1_178 (by decide +kernel) rfl, ?_⟩
  refine List.forall_mem_cons.mpr ⟨s_iload_n (j := 3) (by decide +kernel) rfl rfl, ?_⟩
  refine List.forall_mem_cons.mpr ⟨s_lald (by decide +kernel) rfl, ?_⟩
  refine List.forall_mem_cons.mpr ⟨s_lload (by decide +kernel) rfl, ?_⟩
  refine List.forall_mem_cons.mpr ⟨s_land (by decide +kernel) rfl, ?_⟩
  refine List.forall_mem_cons.mpr ⟨s_lconst (z := 0) (by decide +kernel) (by decide) rfl, ?_⟩
  refine List.forall_mem_cons.mpr ⟨s_lcmp (by decide +kernel) rfl, ?_⟩
  refine List.forall_mem_cons.mpr ⟨s_if_eq (off := 26) (by decide +kernel) (by decide) rfl, ?_⟩
  refine List.forall_mem_cons.mpr ⟨s_aload_n (j := 0) (by decide +kernel) rfl rfl, ?_⟩
  refine List.forall_mem_cons.mpr ⟨s_getf (idx := 15) (C := RX5) (T := TX5) (N := 7) rfl inX5 (by decide) q1_179 (by decide +kernel) rfl, ?_⟩
  refine List.forall_mem_cons.mpr ⟨s_iload_n (j := 3) (by decide +kernel) rfl rfl, ?_⟩
  refine List.forall_mem_cons.mpr ⟨s_lald (by decide +kernel) rfl, ?_⟩
  refine List.forall_mem_cons.mpr ⟨s_lload (by decide +kernel) rfl, ?_⟩
  refine List.forall_mem_cons.mpr ⟨s_land (by decide +kernel) rfl, ?_⟩
  refine List.forall_mem_cons.mpr ⟨s_lconst (z := 0) (by decide +kernel) (by decide) rfl, ?_⟩
  refine List.forall_mem_cons.mpr ⟨s_lcmp (by decide +kernel) rfl, ?_⟩
  refine List.forall_mem_cons.mpr ⟨s_if_eq (off := 12) (by decide +kernel) (by decide) rfl, ?_⟩
  refine List.forall_mem_cons.mpr ⟨s_sipush (by decide +kernel) (by decide) rfl, ?_⟩
  refine List.forall_mem_cons.mpr ⟨s_iload (by decide +kernel) rfl, ?_⟩
  refine List.forall_mem_cons.mpr ⟨s_imul (by decide +kernel) rfl, ?_⟩
  refine List.forall_mem_cons.mpr ⟨s_iload_n (j := 3) (by decide +kernel) rfl rfl, ?_⟩
  refine List.forall_mem_cons.mpr ⟨s_iadd (by decide +kernel) rfl, ?_⟩
  refine List.forall_mem_cons.mpr ⟨s_iret rfl (by decide +kernel), ?_⟩
  refine List.forall_mem_cons.mpr ⟨s_iinc (by decide +kernel) (by decide) rfl, ?_⟩
  refine List.forall_mem_cons.mpr ⟨s_goto (off := (-62)) (by decide +kernel) (by decide), ?_⟩
  refine List.forall_mem_cons.mpr ⟨s_iinc (by decide +kernel) (by decide) rfl, ?_⟩
  refine List.forall_mem_cons.mpr ⟨s_goto (off := (-78)) (by decide +kernel) (by decide), ?_⟩
  refine List.forall_mem_cons.mpr ⟨s_bipush (by decide +kernel) (by decide) rfl, ?_⟩
  refine List.forall_mem_cons.mpr ⟨s_iret rfl (by decide +kernel), ?_⟩
  exact fun q hq => absurd hq List.not_mem_nil
def T_X5_spread : List (Nat × zO) := [(0, o_aload 1 1), (1, o_lconst 2 0), (2, o_calls 2 k_J7_fill_d0a16 5), (5, o_aload 6 0), (6, o_getf 9 5 5), (9, o_const 10 (-1)), (10, o_calls 2 k_J7_fill_53178 13), (13, o_aload 14 1), (14, o_iload 15 2), (15, o_const 18 10000), (18, o_irem 19), (19, o_lconst 20 1), (20, o_const 21 4), (21, o_iload 22 2), (22, o_const 25 10000), (25, o_idiv 26), (26, o_imul 27), (27, o_lshl 28), (28, o_last 29), (29, o_iload 30 2), (30, o_const 33 10000), (33, o_irem 34), (34, o_istore 36 6), (36, o_iload 38 6), (38, o_iload 40 5), (40, o_icmp_gt 130 43), (43, o_aload 44 1), (44, o_iload 46 6), (46, o_lald 47), (47, o_lstore 49 7), (49, o_lload 51 7), (51, o_lload 52 3), (52, o_land 53), (53, o_lconst 54 0), (54, o_lcmp 55), (55, o_if_eq 61 58), (58, o_iload 60 6), (60, o_iret), (61, o_lload 63 7), (63, o_lconst 64 0), (64, o_lcmp 65), (65, o_if_eq 124 68), (68, o_iload 70 6), (70, o_const 73 1439), (73, o_icmp_ge 124 76), (76, o_aload 77 1), (77, o_iload 79 6), (79, o_const 80 1), (80, o_iadd 81), (81, o_dup2 82), (82, o_lald 83), (83, o_lload 85 7), (85, o_aload 86 0), (86, o_iload 88 6), (88, o_callv 1 5 k_X5_waiting 91), (91, o_land 92), (92, o_lor 93), (93, o_last 94), (94, o_const 95 0), (95, o_istore 97 9), (97, o_iload 99 9), (99, o_aload 100 0), (100, o_getf 103 5 0), (103, o_getf 106 2 10), (106, o_icmp_ge 124 109), (109, o_aload 110 0), (110, o_aload 111 1), (111, o_iload 113 6), (113, o_iload 115 9), (115, o_callv 3 5 k_X5_leave 118), (118, o_iinc 121 9 1), (121, o_goto 97), (124, o_iinc 127 6 1), (127, o_goto 36), (130, o_const 132 (-2)), (132, o_iret)]
set_option maxRecDepth 20000 in
theorem t_X5_spread : ∀ q ∈ T_X5_spread, zS k_X5_spread q.1 q.2 := by
  unfold T_X5_spread
  refine List.forall_mem_cons.mpr ⟨s_aload_n (j := 1) (by decide +kernel) rfl rfl, ?_⟩
  refine List.forall_mem_cons.mpr ⟨s_lconst (z := 0) (by decide +kernel) (by decide) rfl, ?_⟩
  refine List.forall_mem_cons.mpr ⟨s_calls (idx := 69) (k' := k_J7_fill_d0a16) q3_61 q3_59 q3_60 q1_13 de_J7_fill_d0a16 (by decide) (by decide +kernel) rfl, ?_⟩
  refine List.forall_mem_cons.mpr ⟨s_aload_n (j := 0) (by decide +kernel) rfl rfl, ?_⟩
  refine List.forall_mem_cons.mpr ⟨s_getf (idx := 22) (C := RX5) (T := TX5) (N := 7) rfl inX5 (by decide) q1_181 (by decide +kernel) rfl, ?_⟩
  refine List.forall_mem_cons.mpr ⟨s_iconst (by decide +kernel) rfl, ?_⟩
  refine List.forall_mem_cons.mpr ⟨s_calls (idx := 75) (k' := k_J7_fill_53178) q3_19 q3_62 q3_18 q1_13 de_J7_fill_53178 (by decide) (by decide +kernel) rfl, ?_⟩
  refine List.forall_mem_cons.mpr ⟨s_aload_n (j := 1) (by decide +kernel) rfl rfl, ?_⟩
  refine List.forall_mem_cons.mpr ⟨s_iload_n (j := 2) (by decide +kernel) rfl rfl, ?_⟩
  refine List.forall_mem_cons.mpr ⟨s_sipush (by decide +kernel) (by decide) rfl, ?_⟩
  refine List.forall_mem_cons.mpr ⟨s_irem (by decide +kernel) rfl, ?_⟩
  refine List.forall_mem_cons.mpr ⟨s_lconst (z := 1) (by decide +kernel) (by decide) rfl, ?_⟩
  refine List.forall_mem_cons.mpr ⟨s_iconst (by decide +kernel) rfl, ?_⟩
  refine List.forall_mem_cons.mpr ⟨s_iload_n (j := 2) (by decide +kernel) rfl rfl, ?_⟩
  refine List.forall_mem_cons.mpr ⟨s_sipush (by decide +kernel) (by decide) rfl, ?_⟩
  refine List.forall_mem_cons.mpr ⟨s_idiv (by decide +kernel) rfl, ?_⟩
  refine List.forall_mem_cons.mpr ⟨s_imul (by decide +kernel) rfl, ?_⟩
  refine List.forall_mem_cons.mpr ⟨s_lshl (by decide +kernel) rfl, ?_⟩
  refine List.forall_mem_cons.mpr ⟨s_last (by decide +kernel) rfl, ?_⟩
  refine List.forall_mem_cons.mpr ⟨s_iload_n (j := 2) (by decide +kernel) rfl rfl, ?_⟩
  refine List.forall_mem_cons.mpr ⟨s_sipush (by decide +kernel) (by decide) rfl, ?_⟩
  refine List.forall_mem_cons.mpr ⟨s_irem (by decide +kernel) rfl, ?_⟩
  refine List.forall_mem_cons.mpr ⟨s_istore (by decide +kernel) (by decide) rfl, ?_⟩
  refine List.forall_mem_cons.mpr ⟨s_iload (by decide +kernel) rfl, ?_⟩
  refine List.forall_mem_cons.mpr ⟨s_iload (by decide +kernel) rfl, ?_⟩
  refine List.forall_mem_cons.mpr ⟨s_icmp_gt (off := 90) (by decide +kernel) (by decide) rfl, ?_⟩
  refine List.forall_mem_cons.mpr ⟨s_aload_n (j := 1) (by decide +kernel) rfl rfl, ?_⟩
  refine List.forall_mem_cons.mpr ⟨s_iload (by decide +kernel) rfl, ?_⟩
  refine List.forall_mem_cons.mpr ⟨s_lald (by decide +kernel) rfl, ?_⟩
  refine List.forall_mem_cons.mpr ⟨s_lstore (by decide +kernel) (by decide) rfl, ?_⟩
  refine List.forall_mem_cons.mpr ⟨s_lload (by decide +kernel) rfl, ?_⟩
  refine List.forall_mem_cons.mpr ⟨s_lload_n (j := 3) (by decide +kernel) rfl rfl, ?_⟩
  refine List.forall_mem_cons.mpr ⟨s_land (by decide +kernel) rfl, ?_⟩
  refine List.forall_mem_cons.mpr ⟨s_lconst (z := 0) (by decide +kernel) (by decide) rfl, ?_⟩
  refine List.forall_mem_cons.mpr ⟨s_lcmp (by decide +kernel) rfl, ?_⟩
  refine List.forall_mem_cons.mpr ⟨s_if_eq (off := 6) (by decide +kernel) (by decide) rfl, ?_⟩
  refine List.forall_mem_cons.mpr ⟨s_iload (by decide +kernel) rfl, ?_⟩
  refine List.forall_mem_cons.mpr ⟨s_iret rfl (by decide +kernel), ?_⟩
  refine List.forall_mem_cons.mpr ⟨s_lload (by decide +kernel) rfl, ?_⟩
  refine List.forall_mem_cons.mpr ⟨s_lconst (z := 0) (by decide +kernel) (by decide) rfl, ?_⟩
  refine List.forall_mem_cons.mpr ⟨s_lcmp (by decide +kernel) rfl, ?_⟩
  refine List.forall_mem_cons.mpr ⟨s_if_eq (off := 59) (by decide +kernel) (by decide) rfl, ?_⟩
  refine List.forall_mem_cons.mpr ⟨s_iload (by decide +kernel) rfl, ?_⟩
  refine List.forall_mem_cons.mpr ⟨s_sipush (by decide +kernel) (by decide) rfl, ?_⟩
  refine List.forall_mem_cons.mpr ⟨s_icmp_ge (off := 51) (by decide +kernel) (by decide) rfl, ?_⟩
  refine List.forall_mem_cons.mpr ⟨s_aload_n (j := 1) (by decide +kernel) rfl rfl, ?_⟩
  refine List.forall_mem_cons.mpr ⟨s_iload (by decide +kernel) rfl, ?_⟩
  refine List.forall_mem_cons.mpr ⟨s_iconst (by decide +kernel) rfl, ?_⟩
  refine List.forall_mem_cons.mpr ⟨s_iadd (by decide +kernel) rfl, ?_⟩
  refine List.forall_mem_cons.mpr ⟨s_dup2 (by decide +kernel) rfl, ?_⟩
  refine List.forall_mem_cons.mpr ⟨s_lald (by decide +kernel) rfl, ?_⟩
  refine List.forall_mem_cons.mpr ⟨s_lload (by decide +kernel) rfl, ?_⟩
  refine List.forall_mem_cons.mpr ⟨s_aload_n (j := 0) (by decide +kernel) rfl rfl, ?_⟩
  refine List.forall_mem_cons.mpr ⟨s_iload (by decide +kernel) rfl, ?_⟩
  refine List.forall_mem_cons.mpr ⟨s_callv (idx := 78) (k' := k_X5_waiting) (T := TX5) (N := 7) rfl q3_66 q3_63 q3_65 qs_13 q1_5 de_X5_waiting (by decide) (by decide +kernel) rfl, ?_⟩
  refine List.forall_mem_cons.mpr ⟨s_land (by decide +kernel) rfl, ?_⟩
  refine List.forall_mem_cons.mpr ⟨s_lor (by decide +kernel) rfl, ?_⟩
  refine List.forall_mem_cons.mpr ⟨s_last (by decide +kernel) rfl, ?_⟩
  refine List.forall_mem_cons.mpr ⟨s_iconst (by decide +kernel) rfl, ?_⟩
  refine List.forall_mem_cons.mpr ⟨s_istore (by decide +kernel) (by decide) rfl, ?_⟩
  refine List.forall_mem_cons.mpr ⟨s_iload (by decide +kernel) rfl, ?_⟩
  refine List.forall_mem_cons.mpr ⟨s_aload_n (j := 0) (by decide +kernel) rfl rfl, ?_⟩
  refine List.forall_mem_cons.mpr ⟨s_getf (idx := 25) (C := RX5) (T := TX5) (N := 7) rfl inX5 (by decide) q1_176 (by decide +kernel) rfl, ?_⟩
  refine List.forall_mem_cons.mpr ⟨s_getf (idx := 45) (C := RX2) (T := TX2) (N := 20) rfl inX2 (by decide) q1_77 (by decide +kernel) rfl, ?_⟩
  refine List.forall_mem_cons.mpr ⟨s_icmp_ge (off := 18) (by decide +kernel) (by decide) rfl, ?_⟩
  refine List.forall_mem_cons.mpr ⟨s_aload_n (j := 0) (by decide +kernel) rfl rfl, ?_⟩
  refine List.forall_mem_cons.mpr ⟨s_aload_n (j := 1) (by decide +kernel) rfl rfl, ?_⟩
  refine List.forall_mem_cons.mpr ⟨s_iload (by decide +kernel) rfl, ?_⟩
  refine List.forall_mem_cons.mpr ⟨s_iload (by decide +kernel) rfl, ?_⟩
  refine List.forall_mem_cons.mpr ⟨s_callv (idx := 82) (k' := k_X5_leave) (T := TX5) (N := 7) rfl q3_71 q3_68 q3_70 qs_14 q1_5 de_X5_leave (by decide) (by decide +kernel) rfl, ?_⟩
  refine List.forall_mem_cons.mpr ⟨s_iinc (by decide +kernel) (by decide) rfl, ?_⟩
  refine List.forall_mem_cons.mpr ⟨s_goto (off := (-24)) (by decide +kernel) (by decide), ?_⟩
  refine List.forall_mem_cons.mpr ⟨s_iinc (by decide +kernel) (by decide) rfl, ?_⟩
  refine List.forall_mem_cons.mpr ⟨s_goto (off := (-91)) (by decide +kernel) (by decide), ?_⟩
  refine List.forall_mem_cons.mpr ⟨s_bipush (by decide +kernel) (by decide) rfl, ?_⟩
  refine List.forall_mem_cons.mpr ⟨s_iret rfl (by decide +kernel), ?_⟩
  exact fun q hq => absurd hq List.not_mem_nil
def T_X5_waiting : List (Nat × zO) := [(0, o_aload 1 0), (1, o_getf 4 5 1), (4, o_getf 7 4 2), (7, o_iload 8 1), (8, o_iald 9), (9, o_aload 10 0), (10, o_getf 13 5 1), (13, o_getf 16 4 2), (16, o_iload 17 1), (17, o_const 18 1), (18, o_iadd 19), (19, o_iald 20), (20, o_mmax 23), (23, o_istore 24 2), (24, o_lconst 25 0), (25, o_lstore 26 3), (26, o_const 27 0), (27, o_istore 29 5), (29, o_iload 31 5), (31, o_aload 32 0), (32, o_getf 35 5 0), (35, o_getf 38 2 8), (38, o_icmp_ge 72 41), (41, o_iload 42 2), (42, o_aload 43 0), (43, o_getf 46 5 0), (46, o_getf 49 2 9), (49, o_iload 51 5), (51, o_iald 52), (52, o_icmp_gt 66 55), (55, o_lload 56 3), (56, o_lconst 59 (15)), (59, o_const 60 4), (60, o_iload 62 5), (62, o_imul 63), (63, o_lshl 64), (64, o_lor 65), (65, o_lstore 66 3), (66, o_iinc 69 5 1), (69, o_goto 29), (72, o_lload 73 3), (73, o_aload 74 0), (74, o_getf 77 5 6), (77, o_land 78), (78, o_lret)]
set_option maxRecDepth 20000 in
theorem t_X5_waiting : ∀ q ∈ T_X5_waiting, zS k_X5_waiting q.1 q.2 := by
  unfold T_X5_waiting
  refine List.forall_mem_cons.mpr ⟨s_aload_n (j := 0) (by decide +kernel) rfl rfl, ?_⟩
  refine List.forall_mem_cons.mpr ⟨s_getf (idx := 29) (C := RX5) (T := TX5) (N := 7) rfl inX5 (by decide) q1_177 (by decide +kernel) rfl, ?_⟩
  refine List.forall_mem_cons.mpr ⟨s_getf (idx := 86) (C := RX4) (T := TX4) (N := 5) rfl inX4 (by decide) q1_156 (by decide +kernel) rfl, ?_⟩
  refine List.forall_mem_cons.mpr ⟨s_iload_n (j := 1) (by decide +kernel) rfl rfl, ?_⟩
  refine List.forall_mem_cons.mpr ⟨s_iald (by decide +kernel) rfl, ?_⟩
  refine List.forall_mem_cons.mpr ⟨s_aload_n (j := 0) (by decide +kernel) rfl rfl, ?_⟩
  refine List.forall_mem_cons.mpr ⟨s_getf (idx := 29) (C := RX5) (T := TX5) (N := 7) rfl inX5 (by decide) q1_177 (by decide +kernel) rfl, ?_⟩
  refine List.forall_mem_cons.mpr ⟨s_getf (idx := 86) (C := RX4) (T := TX4) (N := 5) rfl inX4 (by decide) q1_156 (by decide +kernel) rfl, ?_⟩
  refine List.forall_mem_cons.mpr ⟨s_iload_n (j := 1) (by decide +kernel) rfl rfl, ?_⟩
  refine List.forall_mem_cons.mpr ⟨s_iconst (by decide +kernel) rfl, ?_⟩
  refine List.forall_mem_cons.mpr ⟨s_iadd (by decide +kernel) rfl, ?_⟩
  refine List.forall_mem_cons.mpr ⟨s_iald (by decide +kernel) rfl, ?_⟩
  refine List.forall_mem_cons.mpr ⟨s_mmax (idx := 60) q3_67 q2_166b q1_12b qmaxC (by decide +kernel) rfl, ?_⟩
  refine List.forall_mem_cons.mpr ⟨s_istore_n (j := 2) (by decide +kernel) rfl (by decide) rfl, ?_⟩
  refine List.forall_mem_cons.mpr ⟨s_lconst (z := 0) (by decide +kernel) (by decide) rfl, ?_⟩
  refine List.forall_mem_cons.mpr ⟨s_lstore_n (j := 3) (by decide +kernel) rfl (by decide) rfl, ?_⟩
  refine List.forall_mem_cons.mpr ⟨s_iconst (by decide +kernel) rfl, ?_⟩
  refine List.forall_mem_cons.mpr ⟨s_istore (by decide +kernel) (by decide) rfl, ?_⟩
  refine List.forall_mem_cons.mpr ⟨s_iload (by decide +kernel) rfl, ?_⟩
  refine List.forall_mem_cons.mpr ⟨s_aload_n (j := 0) (by decide +kernel) rfl rfl, ?_⟩
  refine List.forall_mem_cons.mpr ⟨s_getf (idx := 25) (C := RX5) (T := TX5) (N := 7) rfl inX5 (by decide) q1_176 (by decide +kernel) rfl, ?_⟩
  refine List.forall_mem_cons.mpr ⟨s_getf (idx := 66) (C := RX2) (T := TX2) (N := 20) rfl inX2 (by decide) q1_72 (by decide +kernel) rfl, ?_⟩
  refine List.forall_mem_cons.mpr ⟨s_icmp_ge (off := 34) (by decide +kernel) (by decide) rfl, ?_⟩
  refine List.forall_mem_cons.mpr ⟨s_iload_n (j := 2) (by decide +kernel) rfl rfl, ?_⟩
  refine List.forall_mem_cons.mpr ⟨s_aload_n (j := 0) (by decide +kernel) rfl rfl, ?_⟩
  refine List.forall_mem_cons.mpr ⟨s_getf (idx := 25) (C := RX5) (T := TX5) (N := 7) rfl inX5 (by decide) q1_176 (by decide +kernel) rfl, ?_⟩
  refine List.forall_mem_cons.mpr ⟨s_getf (idx := 89) (C := RX2) (T := TX2) (N := 20) rfl inX2 (by decide) q1_76 (by decide +kernel) rfl, ?_⟩
  refine List.forall_mem_cons.mpr ⟨s_iload (by decide +kernel) rfl, ?_⟩
  refine List.forall_mem_cons.mpr ⟨s_iald (by decide +kernel) rfl, ?_⟩
  refine List.forall_mem_cons.mpr ⟨s_icmp_gt (off := 14) (by decide +kernel) (by decide) rfl, ?_⟩
  refine List.forall_mem_cons.mpr ⟨s_lload_n (j := 3) (by decide +kernel) rfl rfl, ?_⟩
  refine List.forall_mem_cons.mpr ⟨s_ldc2 (idx := 54) (y := (15)) (by decide +kernel) q3_54 rfl, ?_⟩
  refine List.forall_mem_cons.mpr ⟨s_iconst (by decide +kernel) rfl, ?_⟩
  refine List.forall_mem_cons.mpr ⟨s_iload (by decide +kernel) rfl, ?_⟩
  refine List.forall_mem_cons.mpr ⟨s_imul (by decide +kernel) rfl, ?_⟩
  refine List.forall_mem_cons.mpr ⟨s_lshl (by decide +kernel) rfl, ?_⟩
  refine List.forall_mem_cons.mpr ⟨s_lor (by decide +kernel) rfl, ?_⟩
  refine List.forall_mem_cons.mpr ⟨s_lstore_n (j := 3) (by decide +kernel) rfl (by decide) rfl, ?_⟩
  refine List.forall_mem_cons.mpr ⟨s_iinc (by decide +kernel) (by decide) rfl, ?_⟩
  refine List.forall_mem_cons.mpr ⟨s_goto (off := (-40)) (by decide +kernel) (by decide), ?_⟩
  refine List.forall_mem_cons.mpr ⟨s_lload_n (j := 3) (by decide +kernel) rfl rfl, ?_⟩
  refine List.forall_mem_cons.mpr ⟨s_aload_n (j := 0) (by decide +kernel) rfl rfl, ?_⟩
  refine List.forall_mem_cons.mpr ⟨s_getf (idx := 41) (C := RX5) (T := TX5) (N := 7) rfl inX5 (by decide) q1_182 (by decide +kernel) rfl, ?_⟩
  refine List.forall_mem_cons.mpr ⟨s_land (by decide +kernel) rfl, ?_⟩
  refine List.forall_mem_cons.mpr ⟨s_lret rfl (by decide +kernel), ?_⟩
  exact fun q hq => absurd hq List.not_mem_nil
def T_X5_leave : List (Nat × zO) := [(0, o_const 1 4), (1, o_aload 2 0), (2, o_getf 5 5 0), (5, o_getf 8 2 11), (8, o_iload 9 3), (9, o_iald 10), (10, o_imul 11), (11, o_istore 13 4), (13, o_const 14 4), (14, o_aload 15 0), (15, o_getf 18 5 0), (18, o_getf 21 2 12), (21, o_iload 22 3), (22, o_iald 23), (23, o_imul 24), (24, o_istore 26 5), (26, o_aload 27 1), (27, o_iload 28 2), (28, o_lald 29), (29, o_iload 31 4), (31, o_lushr 32), (32, o_l2i 33), (33, o_const 35 15), (35, o_iand 36), (36, o_istore 38 6), (38, o_aload 39 1), (39, o_iload 40 2), (40, o_lald 41), (41, o_iload 43 5), (43, o_lushr 44), (44, o_l2i 45), (45, o_const 47 15), (47, o_iand 48), (48, o_istore 50 7), (50, o_iload 52 6), (52, o_iload 54 7), (54, o_ior 55), (55, o_if_eq 84 58), (58, o_iload 59 2), (59, o_aload 60 0), (60, o_getf 63 5 0), (63, o_getf 66 2 15), (66, o_iload 67 3), (67, o_iald 68), (68, o_icmp_lt 84 71), (71, o_iload 72 2), (72, o_aload 73 0), (73, o_getf 76 5 0), (76, o_getf 79 2 16), (79, o_iload 80 3), (80, o_iald 81), (81, o_icmp_le 85 84), (84, o_vret), (85, o_aload 86 0), (86, o_getf 89 5 5), (89, o_iload 90 3), (90, o_iald 91), (91, o_iload 92 2), (92, o_icmp_ge 118 95), (95, o_aload 96 0), (96, o_getf 99 5 5), (99, o_iload 100 3), (100, o_aload 101 0), (101, o_getf 104 5 1), (104, o_aload 105 0), (105, o_getf 108 5 0), (108, o_getf 111 2 14), (111, o_iload 112 3), (112, o_iald 113), (113, o_iload 114 2), (114, o_callv 2 4 k_X4_firstAbove 117), (117, o_iast 118), (118, o_const 119 0), (119, o_istore 121 8), (121, o_iload 123 8), (123, o_const 124 3), (124, o_icmp_gt 212 127), (127, o_iload 128 2), (128, o_aload 129 0), (129, o_getf 132 5 4), (132, o_const 133 4), (133, o_iload 134 3), (134, o_imul 135), (135, o_iload 137 8), (137, o_iadd 138), (138, o_iald 139), (139, o_iadd 140), (140, o_istore 142 9), (142, o_iload 144 9), (144, o_aload 145 0), (145, o_getf 148 5 5), (148, o_iload 149 3), (149, o_iald 150), (150, o_icmp_lt 154 153), (153, o_vret), (154, o_iload 156 8), (156, o_const 157 1), (157, o_iadd 158), (158, o_const 159 3), (159, o_mmin 162), (162, o_istore 164 10), (164, o_aload 165 1), (165, o_iload 167 9), (167, o_dup2 168), (168, o_lald 169), (169, o_iload 171 6), (171, o_iload 173 8), (173, o_iushr 174), (174, o_const 175 1), (175, o_iand 176), (176, o_i2l 177), (177, o_iload 179 5), (179, o_iload 181 10), (181, o_iadd 182), (182, o_lshl 183), (183, o_lor 184), (184, o_last 185), (185, o_aload 186 1), (186, o_iload 188 9), (188, o_dup2 189), (189, o_lald 190), (190, o_iload 192 7), (192, o_iload 194 8), (194, o_iushr 195), (195, o_const 196 1), (196, o_iand 197), (197, o_i2l 198), (198, o_iload 200 4), (200, o_iload 202 10), (202, o_iadd 203), (203, o_lshl 204), (204, o_lor 205), (205, o_last 206), (206, o_iinc 209 8 1), (209, o_goto 121), (212, o_vret)]
set_option maxRecDepth 20000 in
theorem t_X5_leave : ∀ q ∈ T_X5_leave, zS k_X5_leave q.1 q.2 := by
  unfold T_X5_leave
  refine List.forall_mem_cons.mpr ⟨s_iconst (by decide +kernel) rfl, ?_⟩
  refine List.forall_mem_cons.mpr ⟨s_aload_n (j := 0) (by decide +kernel) rfl rfl, ?_⟩
  refine List.forall_mem_cons.mpr ⟨s_getf (idx := 25) (C := RX5) (T := TX5) (N := 7) rfl inX5 (by decide) q1_176 (by decide +kernel) rfl, ?_⟩
  refine List.forall_mem_cons.mpr ⟨s_getf (idx := 92) (C := RX2) (T := TX2) (N := 20) rfl inX2 (by decide) q1_83 (by decide +kernel) rfl, ?_⟩
  refine List.forall_mem_cons.mpr ⟨s_iload_n (j := 3) (by decide +kernel) rfl rfl, ?_⟩
  refine List.forall_mem_cons.mpr ⟨s_iald (by decide +kernel) rfl, ?_⟩
  refine List.forall_mem_cons.mpr ⟨s_imul (by decide +kernel) rfl, ?_⟩
  refine List.forall_mem_cons.mpr ⟨s_istore (by decide +kernel) (by decide) rfl, ?_⟩
  refine List.forall_mem_cons.mpr ⟨s_iconst (by decide +kernel) rfl, ?_⟩
  refine List.forall_mem_cons.mpr ⟨s_aload_n (j := 0) (by decide +kernel) rfl rfl, ?_⟩
  refine List.forall_mem_cons.mpr ⟨s_getf (idx := 25) (C := RX5) (T := TX5) (N := 7) rfl inX5 (by decide) q1_176 (by decide +kernel) rfl, ?_⟩
  refine List.forall_mem_cons.mpr ⟨s_getf (idx := 95) (C := RX2) (T := TX2) (N := 20) rfl inX2 (by decide) q1_86 (by decide +kernel) rfl, ?_⟩
  refine List.forall_mem_cons.mpr ⟨s_iload_n (j := 3) (by decide +kernel) rfl rfl, ?_⟩
  refine List.forall_mem_cons.mpr ⟨s_iald (by decide +kernel) rfl, ?_⟩
  refine List.forall_mem_cons.mpr ⟨s_imul (by decide +kernel) rfl, ?_⟩
  refine List.forall_mem_cons.mpr ⟨s_istore (by decide +kernel) (by decide) rfl, ?_⟩
  refine List.forall_mem_cons.mpr ⟨s_aload_n (j := 1) (by decide +kernel) rfl rfl, ?_⟩
  refine List.forall_mem_cons.mpr ⟨s_iload_n (j := 2) (by decide +kernel) rfl rfl, ?_⟩
  refine List.forall_mem_cons.mpr ⟨s_lald (by decide +kernel) rfl, ?_⟩
  refine List.forall_mem_cons.mpr ⟨s_iload (by decide +kernel) rfl, ?_⟩
  refine List.forall_mem_cons.mpr ⟨s_lushr (by decide +kernel) rfl, ?_⟩
  refine List.forall_mem_cons.mpr ⟨s_l2i (by decide +kernel) rfl, ?_⟩
  refine List.forall_mem_cons.mpr ⟨s_bipush (by decide +kernel) (by decide) rfl, ?_⟩
  refine List.forall_mem_cons.mpr ⟨s_iand (by decide +kernel) rfl, ?_⟩
  refine List.forall_mem_cons.mpr ⟨s_istore (by decide +kernel) (by decide) rfl, ?_⟩
  refine List.forall_mem_cons.mpr ⟨s_aload_n (j := 1) (by decide +kernel) rfl rfl, ?_⟩
  refine List.forall_mem_cons.mpr ⟨s_iload_n (j := 2) (by decide +kernel) rfl rfl, ?_⟩
  refine List.forall_mem_cons.mpr ⟨s_lald (by decide +kernel) rfl, ?_⟩
  refine List.forall_mem_cons.mpr ⟨s_iload (by decide +kernel) rfl, ?_⟩
  refine List.forall_mem_cons.mpr ⟨s_lushr (by decide +kernel) rfl, ?_⟩
  refine List.forall_mem_cons.mpr ⟨s_l2i (by decide +kernel) rfl, ?_⟩
  refine List.forall_mem_cons.mpr ⟨s_bipush (by decide +kernel) (by decide) rfl, ?_⟩
  refine List.forall_mem_cons.mpr ⟨s_iand (by decide +kernel) rfl, ?_⟩
  refine List.forall_mem_cons.mpr ⟨s_istore (by decide +kernel) (by decide) rfl, ?_⟩
  refine List.forall_mem_cons.mpr ⟨s_iload (by decide +kernel) rfl, ?_⟩
  refine List.forall_mem_cons.mpr ⟨s_iload (by decide +kernel) rfl, ?_⟩
  refine List.forall_mem_cons.mpr ⟨s_ior (by decide +kernel) rfl, ?_⟩
  refine List.forall_mem_cons.mpr ⟨s_if_eq (off := 29) (by decide +kernel) (by decide) rfl, ?_⟩
  refine List.forall_mem_cons.mpr ⟨s_iload_n (j := 2) (by decide +kernel) rfl rfl, ?_⟩
  refine List.forall_mem_cons.mpr ⟨s_aload_n (j := 0) (by decide +kernel) rfl rfl, ?_⟩
  refine List.forall_mem_cons.mpr ⟨s_getf (idx := 25) (C := RX5) (T := TX5) (N := 7) rfl inX5 (by decide) q1_176 (by decide +kernel) rfl, ?_⟩
  refine List.forall_mem_cons.mpr ⟨s_getf (idx := 98) (C := RX2) (T := TX2) (N := 20) rfl inX2 (by decide) q1_94 (by decide +kernel) rfl, ?_⟩
  refine List.forall_mem_cons.mpr ⟨s_iload_n (j := 3) (by decide +kernel) rfl rfl, ?_⟩
  refine List.forall_mem_cons.mpr ⟨s_iald (by decide +kernel) rfl, ?_⟩
  refine List.forall_mem_cons.mpr ⟨s_icmp_lt (off := 16) (by decide +kernel) (by decide) rfl, ?_⟩
  refine List.forall_mem_cons.mpr ⟨s_iload_n (j := 2) (by decide +kernel) rfl rfl, ?_⟩
  refine List.forall_mem_cons.mpr ⟨s_aload_n (j := 0) (by decide +kernel) rfl rfl, ?_⟩
  refine List.forall_mem_cons.mpr ⟨s_getf (idx := 25) (C := RX5) (T := TX5) (N := 7) rfl inX5 (by decide) q1_176 (by decide +kernel) rfl, ?_⟩
  refine List.forall_mem_cons.mpr ⟨s_getf (idx := 101) (C := RX2) (T := TX2) (N := 20) rfl inX2 (by decide) q1_99 (by decide +kernel) rfl, ?_⟩
  refine List.forall_mem_cons.mpr ⟨s_iload_n (j := 3) (by decide +kernel) rfl rfl, ?_⟩
  refine List.forall_mem_cons.mpr ⟨s_iald (by decide +kernel) rfl, ?_⟩
  refine List.forall_mem_cons.mpr ⟨s_icmp_le (off := 4) (by decide +kernel) (by decide) rfl, ?_⟩
  refine List.forall_mem_cons.mpr ⟨s_vret rfl (by decide +kernel), ?_⟩
  refine List.forall_mem_cons.mpr ⟨s_aload_n (j := 0) (by decide +kernel) rfl rfl, ?_⟩
  refine List.forall_mem_cons.mpr ⟨s_getf (idx := 22) (C := RX5) (T := TX5) (N := 7) rfl inX5 (by decide) q1_181 (by decide +kernel) rfl, ?_⟩
  refine List.forall_mem_cons.mpr ⟨s_iload_n (j := 3) (by decide +kernel) rfl rfl, ?_⟩
  refine List.forall_mem_cons.mpr ⟨s_iald (by decide +kernel) rfl, ?_⟩
  refine List.forall_mem_cons.mpr ⟨s_iload_n (j := 2) (by decide +kernel) rfl rfl, ?_⟩
  refine List.forall_mem_cons.mpr ⟨s_icmp_ge (off := 26) (by decide +kernel) (by decide) rfl, ?_⟩
  refine List.forall_mem_cons.mpr ⟨s_aload_n (j := 0) (by decide +kernel) rfl rfl, ?_⟩
  refine List.forall_mem_cons.mpr ⟨s_getf (idx := 22) (C := RX5) (T := TX5) (N := 7) rfl inX5 (by decide) q1_181 (by decide +kernel) rfl, ?_⟩
  refine List.forall_mem_cons.mpr ⟨s_iload_n (j := 3) (by decide +kernel) rfl rfl, ?_⟩
  refine List.forall_mem_cons.mpr ⟨s_aload_n (j := 0) (by decide +kernel) rfl rfl, ?_⟩
  refine List.forall_mem_cons.mpr ⟨s_getf (idx := 29) (C := RX5) (T := TX5) (N := 7) rfl inX5 (by decide) q1_177 (by decide +kernel) rfl, ?_⟩
  refine List.forall_mem_cons.mpr ⟨s_aload_n (j := 0) (by decide +kernel) rfl rfl, ?_⟩
  refine List.forall_mem_cons.mpr ⟨s_getf (idx := 25) (C := RX5) (T := TX5) (N := 7) rfl inX5 (by decide) q1_176 (by decide +kernel) rfl, ?_⟩
  refine List.forall_mem_cons.mpr ⟨s_getf (idx := 104) (C := RX2) (T := TX2) (N := 20) rfl inX2 (by decide) q1_90 (by decide +kernel) rfl, ?_⟩
  refine List.forall_mem_cons.mpr ⟨s_iload_n (j := 3) (by decide +kernel) rfl rfl, ?_⟩
  refine List.forall_mem_cons.mpr ⟨s_iald (by decide +kernel) rfl, ?_⟩
  refine List.forall_mem_cons.mpr ⟨s_iload_n (j := 2) (by decide +kernel) rfl rfl, ?_⟩
  refine List.forall_mem_cons.mpr ⟨s_callv (idx := 107) (k' := k_X4_firstAbove) (T := TX4) (N := 5) rfl q3_33 q3_72 q3_31 q3_32 q1_4 de_X4_firstAbove (by decide) (by decide +kernel) rfl, ?_⟩
  refine List.forall_mem_cons.mpr ⟨s_iast (by decide +kernel) rfl, ?_⟩
  refine List.forall_mem_cons.mpr ⟨s_iconst (by decide +kernel) rfl, ?_⟩
  refine List.forall_mem_cons.mpr ⟨s_istore (by decide +kernel) (by decide) rfl, ?_⟩
  refine List.forall_mem_cons.mpr ⟨s_iload (by decide +kernel) rfl, ?_⟩
  refine List.forall_mem_cons.mpr ⟨s_iconst (by decide +kernel) rfl, ?_⟩
  refine List.forall_mem_cons.mpr ⟨s_icmp_gt (off := 88) (by decide +kernel) (by decide) rfl, ?_⟩
  refine List.forall_mem_cons.mpr ⟨s_iload_n (j := 2) (by decide +kernel) rfl rfl, ?_⟩
  refine List.forall_mem_cons.mpr ⟨s_aload_n (j := 0) (by decide +kernel) rfl rfl, ?_⟩
  refine List.forall_mem_cons.mpr ⟨s_getf (idx := 18) (C := RX5) (T := TX5) (N := 7) rfl inX5 (by decide) q1_180 (by decide +kernel) rfl, ?_⟩
  refine List.forall_mem_cons.mpr ⟨s_iconst (by decide +kernel) rfl, ?_⟩
  refine List.forall_mem_cons.mpr ⟨s_iload_n (j := 3) (by decide +kernel) rfl rfl, ?_⟩
  refine List.forall_mem_cons.mpr ⟨s_imul (by decide +kernel) rfl, ?_⟩
  refine List.forall_mem_cons.mpr ⟨s_iload (by decide +kernel) rfl, ?_⟩
  refine List.forall_mem_cons.mpr ⟨s_iadd (by decide +kernel) rfl, ?_⟩
  refine List.forall_mem_cons.mpr ⟨s_iald (by decide +kernel) rfl, ?_⟩
  refine List.forall_mem_cons.mpr ⟨s_iadd (by decide +kernel) rfl, ?_⟩
  refine List.forall_mem_cons.mpr ⟨s_istore (by decide +kernel) (by decide) rfl, ?_⟩
  refine List.forall_mem_cons.mpr ⟨s_iload (by decide +kernel) rfl, ?_⟩
  refine List.forall_mem_cons.mpr ⟨s_aload_n (j := 0) (by decide +kernel) rfl rfl, ?_⟩
  refine List.forall_mem_cons.mpr ⟨s_getf (idx := 22) (C := RX5) (T := TX5) (N := 7) rfl inX5 (by decide) q1_181 (by decide +kernel) rfl, ?_⟩
  refine List.forall_mem_cons.mpr ⟨s_iload_n (j := 3) (by decide +kernel) rfl rfl, ?_⟩
  refine List.forall_mem_cons.mpr ⟨s_iald (by decide +kernel) rfl, ?_⟩
  refine List.forall_mem_cons.mpr ⟨s_icmp_lt (off := 4) (by decide +kernel) (by decide) rfl, ?_⟩
  refine List.forall_mem_cons.mpr ⟨s_vret rfl (by decide +kernel), ?_⟩
  refine List.forall_mem_cons.mpr ⟨s_iload (by decide +kernel) rfl, ?_⟩
  refine List.forall_mem_cons.mpr ⟨s_iconst (by decide +kernel) rfl, ?_⟩
  refine List.forall_mem_cons.mpr ⟨s_iadd (by decide +kernel) rfl, ?_⟩
  refine List.forall_mem_cons.mpr ⟨s_iconst (by decide +kernel) rfl, ?_⟩
  refine List.forall_mem_cons.mpr ⟨s_mmin (idx := 110) q3_73 q2_163b q1_12b qminC (by decide +kernel) rfl, ?_⟩
  refine List.forall_mem_cons.mpr ⟨s_istore (by decide +kernel) (by decide) rfl, ?_⟩
  refine List.forall_mem_cons.mpr ⟨s_aload_n (j := 1) (by decide +kernel) rfl rfl, ?_⟩
  refine List.forall_mem_cons.mpr ⟨s_iload (by decide +kernel) rfl, ?_⟩
  refine List.forall_mem_cons.mpr ⟨s_dup2 (by decide +kernel) rfl, ?_⟩
  refine List.forall_mem_cons.mpr ⟨s_lald (by decide +kernel) rfl, ?_⟩
  refine List.forall_mem_cons.mpr ⟨s_iload (by decide +kernel) rfl, ?_⟩
  refine List.forall_mem_cons.mpr ⟨s_iload (by decide +kernel) rfl, ?_⟩
  refine List.forall_mem_cons.mpr ⟨s_iushr (by decide +kernel) rfl, ?_⟩
  refine List.forall_mem_cons.mpr ⟨s_iconst (by decide +kernel) rfl, ?_⟩
  refine List.forall_mem_cons.mpr ⟨s_iand (by decide +kernel) rfl, ?_⟩
  refine List.forall_mem_cons.mpr ⟨s_i2l (by decide +kernel) rfl, ?_⟩
  refine List.forall_mem_cons.mpr ⟨s_iload (by decide +kernel) rfl, ?_⟩
  refine List.forall_mem_cons.mpr ⟨s_iload (by decide +kernel) rfl, ?_⟩
  refine List.forall_mem_cons.mpr ⟨s_iadd (by decide +kernel) rfl, ?_⟩
  refine List.forall_mem_cons.mpr ⟨s_lshl (by decide +kernel) rfl, ?_⟩
  refine List.forall_mem_cons.mpr ⟨s_lor (by decide +kernel) rfl, ?_⟩
  refine List.forall_mem_cons.mpr ⟨s_last (by decide +kernel) rfl, ?_⟩
  refine List.forall_mem_cons.mpr ⟨s_aload_n (j := 1) (by decide +kernel) rfl rfl, ?_⟩
  refine List.forall_mem_cons.mpr ⟨s_iload (by decide +kernel) rfl, ?_⟩
  refine List.forall_mem_cons.mpr ⟨s_dup2 (by decide +kernel) rfl, ?_⟩
  refine List.forall_mem_cons.mpr ⟨s_lald (by decide +kernel) rfl, ?_⟩
  refine List.forall_mem_cons.mpr ⟨s_iload (by decide +kernel) rfl, ?_⟩
  refine List.forall_mem_cons.mpr ⟨s_iload (by decide +kernel) rfl, ?_⟩
  refine List.forall_mem_cons.mpr ⟨s_iushr (by decide +kernel) rfl, ?_⟩
  refine List.forall_mem_cons.mpr ⟨s_iconst (by decide +kernel) rfl, ?_⟩
  refine List.forall_mem_cons.mpr ⟨s_iand (by decide +kernel) rfl, ?_⟩
  refine List.forall_mem_cons.mpr ⟨s_i2l (by decide +kernel) rfl, ?_⟩
  refine List.forall_mem_cons.mpr ⟨s_iload (by decide +kernel) rfl, ?_⟩
  refine List.forall_mem_cons.mpr ⟨s_iload (by decide +kernel) rfl, ?_⟩
  refine List.forall_mem_cons.mpr ⟨s_iadd (by decide +kernel) rfl, ?_⟩
  refine List.forall_mem_cons.mpr ⟨s_lshl (by decide +kernel) rfl, ?_⟩
  refine List.forall_mem_cons.mpr ⟨s_lor (by decide +kernel) rfl, ?_⟩
  refine List.forall_mem_cons.mpr ⟨s_last (by decide +kernel) rfl, ?_⟩
  refine List.forall_mem_cons.mpr ⟨s_iinc (by decide +kernel) (by decide) rfl, ?_⟩
  refine List.forall_mem_cons.mpr ⟨s_goto (off := (-88)) (by decide +kernel) (by decide), ?_⟩
  refine List.forall_mem_cons.mpr ⟨s_vret rfl (by decide +kernel), ?_⟩
  exact fun q hq => absurd hq List.not_mem_nil
def T_X5_latest : List (Nat × zO) := [(0, o_aload 1 0), (1, o_getf 4 5 5), (4, o_aload 5 0), (5, o_getf 8 5 0), (8, o_getf 11 2 19), (11, o_const 12 1), (12, o_iadd 13), (13, o_calls 2 k_J7_fill_53178 16), (16, o_aload 17 0), (17, o_getf 20 5 0), (20, o_getf 23 2 19), (23, o_istore 24 3), (24, o_iload 25 3), (25, o_aload 26 0), (26, o_getf 29 5 0), (29, o_getf 32 2 18), (32, o_icmp_lt 136 35), (35, o_lconst 38 (15)), (38, o_const 39 4), (39, o_iload 40 2), (40, o_imul 41), (41, o_lshl 42), (42, o_lstore 44 4), (44, o_iload 45 3), (45, o_aload 46 0), (46, o_getf 49 5 0), (49, o_getf 52 2 19), (52, o_icmp_ge 74 55), (55, o_lload 57 4), (57, o_aload 58 0), (58, o_getf 61 5 2), (61, o_iload 62 3), (62, o_const 63 1), (63, o_iadd 64), (64, o_lald 65), (65, o_aload 66 0), (66, o_iload 67 3), (67, o_callv 1 5 k_X5_waiting 70), (70, o_land 71), (71, o_lor 72), (72, o_lstore 74 4), (74, o_const 75 0), (75, o_istore 77 6), (77, o_iload 79 6), (79, o_aload 80 0), (80, o_getf 83 5 0), (83, o_getf 86 2 10), (86, o_icmp_ge 107 89), (89, o_lload 91 4), (91, o_aload 92 0), (92, o_iload 93 3), (93, o_iload 95 6), (95, o_callv 2 5 k_X5_goodToLeave 98), (98, o_lor 99), (99, o_lstore 101 4), (101, o_iinc 104 6 1), (104, o_goto 77), (107, o_aload 108 0), (108, o_getf 111 5 2), (111, o_iload 112 3), (112, o_lload 114 4), (114, o_last 115), (115, o_lload 117 4), (117, o_lconst 118 1), (118, o_const 119 4), (119, o_iload 120 1), (120, o_imul 121), (121, o_lshl 122), (122, o_land 123), (123, o_lconst 124 0), (124, o_lcmp 125), (125, o_if_eq 130 128), (128, o_iload 129 3), (129, o_iret), (130, o_iinc 133 3 (-1)), (133, o_goto 24), (136, o_const 138 (-2)), (138, o_iret)]
set_option maxRecDepth 20000 in
theorem t_X5_latest : ∀ q ∈ T_X5_latest, zS k_X5_latest q.1 q.2 := by
  unfold T_X5_latest
  refine List.forall_mem_cons.mpr ⟨s_aload_n (j := 0) (by decide +kernel) rfl rfl, ?_⟩
  refine List.forall_mem_cons.mpr ⟨s_getf (idx := 22) (C := RX5) (T := TX5) (N := 7) rfl inX5 (by decide) q1_181 (by decide +kernel) rfl, ?_⟩
  refine List.forall_mem_cons.mpr ⟨s_aload_n (j := 0) (by decide +kernel) rfl rfl, ?_⟩
  refine List.forall_mem_cons.mpr ⟨s_getf (idx := 25) (C := RX5) (T := TX5) (N := 7) rfl inX5 (by decide) q1_176 (by decide +kernel) rfl, ?_⟩
  refine List.forall_mem_cons.mpr ⟨s_getf (idx := 113) (C := RX2) (T := TX2) (N := 20) rfl inX2 (by decide) q1_104 (by decide +kernel) rfl, ?_⟩
  refine List.forall_mem_cons.mpr ⟨s_iconst (by decide +kernel) rfl, ?_⟩
  refine List.forall_mem_cons.mpr ⟨s_iadd (by decide +kernel) rfl, ?_⟩
  refine List.forall_mem_cons.mpr ⟨s_calls (idx := 75) (k' := k_J7_fill_53178) q3_19 q3_62 q3_18 q1_13 de_J7_fill_53178 (by decide) (by decide +kernel) rfl, ?_⟩
  refine List.forall_mem_cons.mpr ⟨s_aload_n (j := 0) (by decide +kernel) rfl rfl, ?_⟩
  refine List.forall_mem_cons.mpr ⟨s_getf (idx := 25) (C := RX5) (T := TX5) (N := 7) rfl inX5 (by decide) q1_176 (by decide +kernel) rfl, ?_⟩
  refine List.forall_mem_cons.mpr ⟨s_getf (idx := 113) (C := RX2) (T := TX2) (N := 20) rfl inX2 (by decide) q1_104 (by decide +kernel) rfl, ?_⟩
  refine List.forall_mem_cons.mpr ⟨s_istore_n (j := 3) (by decide +kernel) rfl (by decide) rfl, ?_⟩
  refine List.forall_mem_cons.mpr ⟨s_iload_n (j := 3) (by decide +kernel) rfl rfl, ?_⟩
  refine List.forall_mem_cons.mpr ⟨s_aload_n (j := 0) (by decide +kernel) rfl rfl, ?_⟩
  refine List.forall_mem_cons.mpr ⟨s_getf (idx := 25) (C := RX5) (T := TX5) (N := 7) rfl inX5 (by decide) q1_176 (by decide +kernel) rfl, ?_⟩
  refine List.forall_mem_cons.mpr ⟨s_getf (idx := 116) (C := RX2) (T := TX2) (N := 20) rfl inX2 (by decide) q1_101 (by decide +kernel) rfl, ?_⟩
  refine List.forall_mem_cons.mpr ⟨s_icmp_lt (off := 104) (by decide +kernel) (by decide) rfl, ?_⟩
  refine List.forall_mem_cons.mpr ⟨s_ldc2 (idx := 54) (y := (15)) (by decide +kernel) q3_54 rfl, ?_⟩
  refine List.forall_mem_cons.mpr ⟨s_iconst (by decide +kernel) rfl, ?_⟩
  refine List.forall_mem_cons.mpr ⟨s_iload_n (j := 2) (by decide +kernel) rfl rfl, ?_⟩
  refine List.forall_mem_cons.mpr ⟨s_imul (by decide +kernel) rfl, ?_⟩
  refine List.forall_mem_cons.mpr ⟨s_lshl (by decide +kernel) rfl, ?_⟩
  refine List.forall_mem_cons.mpr ⟨s_lstore (by decide +kernel) (by decide) rfl, ?_⟩
  refine List.forall_mem_cons.mpr ⟨s_iload_n (j := 3) (by decide +kernel) rfl rfl, ?_⟩
  refine List.forall_mem_cons.mpr ⟨s_aload_n (j := 0) (by decide +kernel) rfl rfl, ?_⟩
  refine List.forall_mem_cons.mpr ⟨s_getf (idx := 25) (C := RX5) (T := TX5) (N := 7) rfl inX5 (by decide) q1_176 (by decide +kernel) rfl, ?_⟩
  refine List.forall_mem_cons.mpr ⟨s_getf (idx := 113) (C := RX2) (T := TX2) (N := 20) rfl inX2 (by decide) q1_104 (by decide +kernel) rfl, ?_⟩
  refine List.forall_mem_cons.mpr ⟨s_icmp_ge (off := 22) (by decide +kernel) (by decide) rfl, ?_⟩
  refine List.forall_mem_cons.mpr ⟨s_lload (by decide +kernel) rfl, ?_⟩
  refine List.forall_mem_cons.mpr ⟨s_aload_n (j := 0) (by decide +kernel) rfl rfl, ?_⟩
  refine List.forall_mem_cons.mpr ⟨s_getf (idx := 9) (C := RX5) (T := TX5) (N := 7) rfl inX5 (by decide) q1_178 (by decide +kernel) rfl, ?_⟩
  refine List.forall_mem_cons.mpr ⟨s_iload_n (j := 3) (by decide +kernel) rfl rfl, ?_⟩
  refine List.forall_mem_cons.mpr ⟨s_iconst (by decide +kernel) rfl, ?_⟩
  refine List.forall_mem_cons.mpr ⟨s_iadd (by decide +kernel) rfl, ?_⟩
  refine List.forall_mem_cons.mpr ⟨s_lald (by decide +kernel) rfl, ?_⟩
  refine List.forall_mem_cons.mpr ⟨s_aload_n (j := 0) (by decide +kernel) rfl rfl, ?_⟩
  refine List.forall_mem_cons.mpr ⟨s_iload_n (j := 3) (by decide +kernel) rfl rfl, ?_⟩
  refine List.forall_mem_cons.mpr ⟨s_callv (idx := 78) (k' := k_X5_waiting) (T := TX5) (N := 7) rfl q3_66 q3_63 q3_65 qs_13 q1_5 de_X5_waiting (by decide) (by decide +kernel) rfl, ?_⟩
  refine List.forall_mem_cons.mpr ⟨s_land (by decide +kernel) rfl, ?_⟩
  refine List.forall_mem_cons.mpr ⟨s_lor (by decide +kernel) rfl, ?_⟩
  refine List.forall_mem_cons.mpr ⟨s_lstore (by decide +kernel) (by decide) rfl, ?_⟩
  refine List.forall_mem_cons.mpr ⟨s_iconst (by decide +kernel) rfl, ?_⟩
  refine List.forall_mem_cons.mpr ⟨s_istore (by decide +kernel) (by decide) rfl, ?_⟩
  refine List.forall_mem_cons.mpr ⟨s_iload (by decide +kernel) rfl, ?_⟩
  refine List.forall_mem_cons.mpr ⟨s_aload_n (j := 0) (by decide +kernel) rfl rfl, ?_⟩
  refine List.forall_mem_cons.mpr ⟨s_getf (idx := 25) (C := RX5) (T := TX5) (N := 7) rfl inX5 (by decide) q1_176 (by decide +kernel) rfl, ?_⟩
  refine List.forall_mem_cons.mpr ⟨s_getf (idx := 45) (C := RX2) (T := TX2) (N := 20) rfl inX2 (by decide) q1_77 (by decide +kernel) rfl, ?_⟩
  refine List.forall_mem_cons.mpr ⟨s_icmp_ge (off := 21) (by decide +kernel) (by decide) rfl, ?_⟩
  refine List.forall_mem_cons.mpr ⟨s_lload (by decide +kernel) rfl, ?_⟩
  refine List.forall_mem_cons.mpr ⟨s_aload_n (j := 0) (by decide +kernel) rfl rfl, ?_⟩
  refine List.forall_mem_cons.mpr ⟨s_iload_n (j := 3) (by decide +kernel) rfl rfl, ?_⟩
  refine List.forall_mem_cons.mpr ⟨s_iload (by decide +kernel) rfl, ?_⟩
  refine List.forall_mem_cons.mpr ⟨s_callv (idx := 119) (k' := k_X5_goodToLeave) (T := TX5) (N := 7) rfl q3_85 q3_82 q3_84 qs_15 q1_5 de_X5_goodToLeave (by decide) (by decide +kernel) rfl, ?_⟩
  refine List.forall_mem_cons.mpr ⟨s_lor (by decide +kernel) rfl, ?_⟩
  refine List.forall_mem_cons.mpr ⟨s_lstore (by decide +kernel) (by decide) rfl, ?_⟩
  refine List.forall_mem_cons.mpr ⟨s_iinc (by decide +kernel) (by decide) rfl, ?_⟩
  refine List.forall_mem_cons.mpr ⟨s_goto (off := (-27)) (by decide +kernel) (by decide), ?_⟩
  refine List.forall_mem_cons.mpr ⟨s_aload_n (j := 0) (by decide +kernel) rfl rfl, ?_⟩
  refine List.forall_mem_cons.mpr ⟨s_getf (idx := 9) (C := RX5) (T := TX5) (N := 7) rfl inX5 (by decide) q1_178 (by decide +kernel) rfl, ?_⟩
  refine List.forall_mem_cons.mpr ⟨s_iload_n (j := 3) (by decide +kernel) rfl rfl, ?_⟩
  refine List.forall_mem_cons.mpr ⟨s_lload (by decide +kernel) rfl, ?_⟩
  refine List.forall_mem_cons.mpr ⟨s_last (by decide +kernel) rfl, ?_⟩
  refine List.forall_mem_cons.mpr ⟨s_lload (by decide +kernel) rfl, ?_⟩
  refine List.forall_mem_cons.mpr ⟨s_lconst (z := 1) (by decide +kernel) (by decide) rfl, ?_⟩
  refine List.forall_mem_cons.mpr ⟨s_iconst (by decide +kernel) rfl, ?_⟩
  refine List.forall_mem_cons.mpr ⟨s_iload_n (j := 1) (by decide +kernel) rfl rfl, ?_⟩
  refine List.forall_mem_cons.mpr ⟨s_imul (by decide +kernel) rfl, ?_⟩
  refine List.forall_mem_cons.mpr ⟨s_lshl (by decide +kernel) rfl, ?_⟩
  refine List.forall_mem_cons.mpr ⟨s_land (by decide +kernel) rfl, ?_⟩
  refine List.forall_mem_cons.mpr ⟨s_lconst (z := 0) (by decide +kernel) (by decide) rfl, ?_⟩
  refine List.forall_mem_cons.mpr ⟨s_lcmp (by decide +kernel) rfl, ?_⟩
  refine List.forall_mem_cons.mpr ⟨s_if_eq (off := 5) (by decide +kernel) (by decide) rfl, ?_⟩
  refine List.forall_mem_cons.mpr ⟨s_iload_n (j := 3) (by decide +kernel) rfl rfl, ?_⟩
  refine List.forall_mem_cons.mpr ⟨s_iret rfl (by decide +kernel), ?_⟩
  refine List.forall_mem_cons.mpr ⟨s_iinc (by decide +kernel) (by decide) rfl, ?_⟩
  refine List.forall_mem_cons.mpr ⟨s_goto (off := (-109)) (by decide +kernel) (by decide), ?_⟩
  refine List.forall_mem_cons.mpr ⟨s_bipush (by decide +kernel) (by decide) rfl, ?_⟩
  refine List.forall_mem_cons.mpr ⟨s_iret rfl (by decide +kernel), ?_⟩
  exact fun q hq => absurd hq List.not_mem_nil
def T_X5_goodToLeave : List (Nat × zO) := [(0, o_aload 1 0), (1, o_getf 4 5 1), (4, o_getf 7 4 2), (7, o_iload 8 1), (8, o_iald 9), (9, o_aload 10 0), (10, o_getf 13 5 0), (13, o_getf 16 2 14), (16, o_iload 17 2), (17, o_iald 18), (18, o_icmp_le 28 21), (21, o_aload 22 0), (22, o_getf 25 5 5), (25, o_iload 26 2), (26, o_iload 27 1), (27, o_iast 28), (28, o_iload 29 1), (29, o_aload 30 0), (30, o_getf 33 5 0), (33, o_getf 36 2 15), (36, o_iload 37 2), (37, o_iald 38), (38, o_icmp_lt 54 41), (41, o_iload 42 1), (42, o_aload 43 0), (43, o_getf 46 5 0), (46, o_getf 49 2 16), (49, o_iload 50 2), (50, o_iald 51), (51, o_icmp_le 56 54), (54, o_lconst 55 0), (55, o_lret), (56, o_const 57 4), (57, o_aload 58 0), (58, o_getf 61 5 0), (61, o_getf 64 2 11), (64, o_iload 65 2), (65, o_iald 66), (66, o_imul 67), (67, o_istore 68 3), (68, o_const 69 4), (69, o_aload 70 0), (70, o_getf 73 5 0), (73, o_getf 76 2 12), (76, o_iload 77 2), (77, o_iald 78), (78, o_imul 79), (79, o_istore 81 4), (81, o_lconst 82 0), (82, o_lstore 84 5), (84, o_const 85 0), (85, o_istore 87 7), (87, o_iload 89 7), (89, o_const 90 3), (90, o_icmp_gt 180 93), (93, o_iload 94 1), (94, o_aload 95 0), (95, o_getf 98 5 4), (98, o_const 99 4), (99, o_iload 100 2), (100, o_imul 101), (101, o_iload 103 7), (103, o_iadd 104), (104, o_iald 105), (105, o_iadd 106), (106, o_istore 108 8), (108, o_iload 110 8), (110, o_aload 111 0), (111, o_getf 114 5 5), (114, o_iload 115 2), (115, o_iald 116), (116, o_icmp_lt 122 119), (119, o_lload 121 5), (121, o_lret), (122, o_aload 123 0), (123, o_getf 126 5 2), (126, o_iload 128 8), (128, o_lald 129), (129, o_iload 131 7), (131, o_const 132 1), (132, o_iadd 133), (133, o_const 134 3), (134, o_mmin 137), (137, o_lushr 138), (138, o_lstore 140 9), (140, o_lload 142 5), (142, o_lload 144 9), (144, o_iload 146 4), (146, o_lushr 147), (147, o_lconst 148 1), (148, o_land 149), (149, o_iload 150 3), (150, o_iload 152 7), (152, o_iadd 153), (153, o_lshl 154), (154, o_lor 155), (155, o_lstore 157 5), (157, o_lload 159 5), (159, o_lload 161 9), (161, o_iload 162 3), (162, o_lushr 163), (163, o_lconst 164 1), (164, o_land 165), (165, o_iload 167 4), (167, o_iload 169 7), (169, o_iadd 170), (170, o_lshl 171), (171, o_lor 172), (172, o_lstore 174 5), (174, o_iinc 177 7 1), (177, o_goto 87), (180, o_lload 182 5), (182, o_lret)]
set_option maxRecDepth 20000 in
theorem t_X5_goodToLeave : ∀ q ∈ T_X5_goodToLeave, zS k_X5_goodToLeave q.1 q.2 := by
  unfold T_X5_goodToLeave
  refine List.forall_mem_cons.mpr ⟨s_aload_n (j := 0) (by decide +kernel) rfl rfl, ?_⟩
  refine List.forall_mem_cons.mpr ⟨s_getf (idx := 29) (C := RX5) (T := TX5) (N := 7) rfl inX5 (by decide) q1_177 (by decide +kernel) rfl, ?_⟩
  refine List.forall_mem_cons.mpr ⟨s_getf (idx := 86) (C := RX4) (T := TX4) (N := 5) rfl inX4 (by decide) q1_156 (by decide +kernel) rfl, ?_⟩
  refine List.forall_mem_cons.mpr ⟨s_iload_n (j := 1) (by decide +kernel) rfl rfl, ?_⟩
  refine List.forall_mem_cons.mpr ⟨s_iald (by decide +kernel) rfl, ?_⟩
  refine List.forall_mem_cons.mpr ⟨s_aload_n (j := 0) (by decide +kernel) rfl rfl, ?_⟩
  refine List.forall_mem_cons.mpr ⟨s_getf (idx := 25) (C := RX5) (T := TX5) (N := 7) rfl inX5 (by decide) q1_176 (by decide +kernel) rfl, ?_⟩
  refine List.forall_mem_cons.mpr ⟨s_getf (idx := 104) (C := RX2) (T := TX2) (N := 20) rfl inX2 (by decide) q1_90 (by decide +kernel) rfl, ?_⟩
  refine List.forall_mem_cons.mpr ⟨s_iload_n (j := 2) (by decide +kernel) rfl rfl, ?_⟩
  refine List.forall_mem_cons.mpr ⟨s_iald (by decide +kernel) rfl, ?_⟩
  refine List.forall_mem_cons.mpr ⟨s_icmp_le (off := 10) (by decide +kernel) (by decide) rfl, ?_⟩
  refine List.forall_mem_cons.mpr ⟨s_aload_n (j := 0) (by decide +kernel) rfl rfl, ?_⟩
  refine List.forall_mem_cons.mpr ⟨s_getf (idx := 22) (C := RX5) (T := TX5) (N := 7) rfl inX5 (by decide) q1_181 (by decide +kernel) rfl, ?_⟩
  refine List.forall_mem_cons.mpr ⟨s_iload_n (j := 2) (by decide +kernel) rfl rfl, ?_⟩
  refine List.forall_mem_cons.mpr ⟨s_iload_n (j := 1) (by decide +kernel) rfl rfl, ?_⟩
  refine List.forall_mem_cons.mpr ⟨s_iast (by decide +kernel) rfl, ?_⟩
  refine List.forall_mem_cons.mpr ⟨s_iload_n (j := 1) (by decide +kernel) rfl rfl, ?_⟩
  refine List.forall_mem_cons.mpr ⟨s_aload_n (j := 0) (by decide +kernel) rfl rfl, ?_⟩
  refine List.forall_mem_cons.mpr ⟨s_getf (idx := 25) (C := RX5) (T := TX5) (N := 7) rfl inX5 (by decide) q1_176 (by decide +kernel) rfl, ?_⟩
  refine List.forall_mem_cons.mpr ⟨s_getf (idx := 98) (C := RX2) (T := TX2) (N := 20) rfl inX2 (by decide) q1_94 (by decide +kernel) rfl, ?_⟩
  refine List.forall_mem_cons.mpr ⟨s_iload_n (j := 2) (by decide +kernel) rfl rfl, ?_⟩
  refine List.forall_mem_cons.mpr ⟨s_iald (by decide +kernel) rfl, ?_⟩
  refine List.forall_mem_cons.mpr ⟨s_icmp_lt (off := 16) (by decide +kernel) (by decide) rfl, ?_⟩
  refine List.forall_mem_cons.mpr ⟨s_iload_n (j := 1) (by decide +kernel) rfl rfl, ?_⟩
  refine List.forall_mem_cons.mpr ⟨s_aload_n (j := 0) (by decide +kernel) rfl rfl, ?_⟩
  refine List.forall_mem_cons.mpr ⟨s_getf (idx := 25) (C := RX5) (T := TX5) (N := 7) rfl inX5 (by decide) q1_176 (by decide +kernel) rfl, ?_⟩
  refine List.forall_mem_cons.mpr ⟨s_getf (idx := 101) (C := RX2) (T := TX2) (N := 20) rfl inX2 (by decide) q1_99 (by decide +kernel) rfl, ?_⟩
  refine List.forall_mem_cons.mpr ⟨s_iload_n (j := 2) (by decide +kernel) rfl rfl, ?_⟩
  refine List.forall_mem_cons.mpr ⟨s_iald (by decide +kernel) rfl, ?_⟩
  refine List.forall_mem_cons.mpr ⟨s_icmp_le (off := 5) (by decide +kernel) (by decide) rfl, ?_⟩
  refine List.forall_mem_cons.mpr ⟨s_lconst (z := 0) (by decide +kernel) (by decide) rfl, ?_⟩
  refine List.forall_mem_cons.mpr ⟨s_lret rfl (by decide +kernel), ?_⟩
  refine List.forall_mem_cons.mpr ⟨s_iconst (by decide +kernel) rfl, ?_⟩
  refine List.forall_mem_cons.mpr ⟨s_aload_n (j := 0) (by decide +kernel) rfl rfl, ?_⟩
  refine List.forall_mem_cons.mpr ⟨s_getf (idx := 25) (C := RX5) (T := TX5) (N := 7) rfl inX5 (by decide) q1_176 (by decide +kernel) rfl, ?_⟩
  refine List.forall_mem_cons.mpr ⟨s_getf (idx := 92) (C := RX2) (T := TX2) (N := 20) rfl inX2 (by decide) q1_83 (by decide +kernel) rfl, ?_⟩
  refine List.forall_mem_cons.mpr ⟨s_iload_n (j := 2) (by decide +kernel) rfl rfl, ?_⟩
  refine List.forall_mem_cons.mpr ⟨s_iald (by decide +kernel) rfl, ?_⟩
  refine List.forall_mem_cons.mpr ⟨s_imul (by decide +kernel) rfl, ?_⟩
  refine List.forall_mem_cons.mpr ⟨s_istore_n (j := 3) (by decide +kernel) rfl (by decide) rfl, ?_⟩
  refine List.forall_mem_cons.mpr ⟨s_iconst (by decide +kernel) rfl, ?_⟩
  refine List.forall_mem_cons.mpr ⟨s_aload_n (j := 0) (by decide +kernel) rfl rfl, ?_⟩
  refine List.forall_mem_cons.mpr ⟨s_getf (idx := 25) (C := RX5) (T := TX5) (N := 7) rfl inX5 (by decide) q1_176 (by decide +kernel) rfl, ?_⟩
  refine List.forall_mem_cons.mpr ⟨s_getf (idx := 95) (C := RX2) (T := TX2) (N := 20) rfl inX2 (by decide) q1_86 (by decide +kernel) rfl, ?_⟩
  refine List.forall_mem_cons.mpr ⟨s_iload_n (j := 2) (by decide +kernel) rfl rfl, ?_⟩
  refine List.forall_mem_cons.mpr ⟨s_iald (by decide +kernel) rfl, ?_⟩
  refine List.forall_mem_cons.mpr ⟨s_imul (by decide +kernel) rfl, ?_⟩
  refine List.forall_mem_cons.mpr ⟨s_istore (by decide +kernel) (by decide) rfl, ?_⟩
  refine List.forall_mem_cons.mpr ⟨s_lconst (z := 0) (by decide +kernel) (by decide) rfl, ?_⟩
  refine List.forall_mem_cons.mpr ⟨s_lstore (by decide +kernel) (by decide) rfl, ?_⟩
  refine List.forall_mem_cons.mpr ⟨s_iconst (by decide +kernel) rfl, ?_⟩
  refine List.forall_mem_cons.mpr ⟨s_istore (by decide +kernel) (by decide) rfl, ?_⟩
  refine List.forall_mem_cons.mpr ⟨s_iload (by decide +kernel) rfl, ?_⟩
  refine List.forall_mem_cons.mpr ⟨s_iconst (by decide +kernel) rfl, ?_⟩
  refine List.forall_mem_cons.mpr ⟨s_icmp_gt (off := 90) (by decide +kernel) (by decide) rfl, ?_⟩
  refine List.forall_mem_cons.mpr ⟨s_iload_n (j := 1) (by decide +kernel) rfl rfl, ?_⟩
  refine List.forall_mem_cons.mpr ⟨s_aload_n (j := 0) (by decide +kernel) rfl rfl, ?_⟩
  refine List.forall_mem_cons.mpr ⟨s_getf (idx := 18) (C := RX5) (T := TX5) (N := 7) rfl inX5 (by decide) q1_180 (by decide +kernel) rfl, ?_⟩
  refine List.forall_mem_cons.mpr ⟨s_iconst (by decide +kernel) rfl, ?_⟩
  refine List.forall_mem_cons.mpr ⟨s_iload_n (j := 2) (by decide +kernel) rfl rfl, ?_⟩
  refine List.forall_mem_cons.mpr ⟨s_imul (by decide +kernel) rfl, ?_⟩
  refine List.forall_mem_cons.mpr ⟨s_iload (by decide +kernel) rfl, ?_⟩
  refine List.forall_mem_cons.mpr ⟨s_iadd (by decide +kernel) rfl, ?_⟩
  refine List.forall_mem_cons.mpr ⟨s_iald (by decide +kernel) rfl, ?_⟩
  refine List.forall_mem_cons.mpr ⟨s_iadd (by decide +kernel) rfl, ?_⟩
  refine List.forall_mem_cons.mpr ⟨s_istore (by decide +kernel) (by decide) rfl, ?_⟩
  refine List.forall_mem_cons.mpr ⟨s_iload (by decide +kernel) rfl, ?_⟩
  refine List.forall_mem_cons.mpr ⟨s_aload_n (j := 0) (by decide +kernel) rfl rfl, ?_⟩
  refine List.forall_mem_cons.mpr ⟨s_getf (idx := 22) (C := RX5) (T := TX5) (N := 7) rfl inX5 (by decide) q1_181 (by decide +kernel) rfl, ?_⟩
  refine List.forall_mem_cons.mpr ⟨s_iload_n (j := 2) (by decide +kernel) rfl rfl, ?_⟩
  refine List.forall_mem_cons.mpr ⟨s_iald (by decide +kernel) rfl, ?_⟩
  refine List.forall_mem_cons.mpr ⟨s_icmp_lt (off := 6) (by decide +kernel) (by decide) rfl, ?_⟩
  refine List.forall_mem_cons.mpr ⟨s_lload (by decide +kernel) rfl, ?_⟩
  refine List.forall_mem_cons.mpr ⟨s_lret rfl (by decide +kernel), ?_⟩
  refine List.forall_mem_cons.mpr ⟨s_aload_n (j := 0) (by decide +kernel) rfl rfl, ?_⟩
  refine List.forall_mem_cons.mpr ⟨s_getf (idx := 9) (C := RX5) (T := TX5) (N := 7) rfl inX5 (by decide) q1_178 (by decide +kernel) rfl, ?_⟩
  refine List.forall_mem_cons.mpr ⟨s_iload (by decide +kernel) rfl, ?_⟩
  refine List.forall_mem_cons.mpr ⟨s_lald (by decide +kernel) rfl, ?_⟩
  refine List.forall_mem_cons.mpr ⟨s_iload (by decide +kernel) rfl, ?_⟩
  refine List.forall_mem_cons.mpr ⟨s_iconst (by decide +kernel) rfl, ?_⟩
  refine List.forall_mem_cons.mpr ⟨s_iadd (by decide +kernel) rfl, ?_⟩
  refine List.forall_mem_cons.mpr ⟨s_iconst (by decide +kernel) rfl, ?_⟩
  refine List.forall_mem_cons.mpr ⟨s_mmin (idx := 110) q3_73 q2_163b q1_12b qminC (by decide +kernel) rfl, ?_⟩
  refine List.forall_mem_cons.mpr ⟨s_lushr (by decide +kernel) rfl, ?_⟩
  refine List.forall_mem_cons.mpr ⟨s_lstore (by decide +kernel) (by decide) rfl, ?_⟩
  refine List.forall_mem_cons.mpr ⟨s_lload (by decide +kernel) rfl, ?_⟩
  refine List.forall_mem_cons.mpr ⟨s_lload (by decide +kernel) rfl, ?_⟩
  refine List.forall_mem_cons.mpr ⟨s_iload (by decide +kernel) rfl, ?_⟩
  refine List.forall_mem_cons.mpr ⟨s_lushr (by decide +kernel) rfl, ?_⟩
  refine List.forall_mem_cons.mpr ⟨s_lconst (z := 1) (by decide +kernel) (by decide) rfl, ?_⟩
  refine List.forall_mem_cons.mpr ⟨s_land (by decide +kernel) rfl, ?_⟩
  refine List.forall_mem_cons.mpr ⟨s_iload_n (j := 3) (by decide +kernel) rfl rfl, ?_⟩
  refine List.forall_mem_cons.mpr ⟨s_iload (by decide +kernel) rfl, ?_⟩
  refine List.forall_mem_cons.mpr ⟨s_iadd (by decide +kernel) rfl, ?_⟩
  refine List.forall_mem_cons.mpr ⟨s_lshl (by decide +kernel) rfl, ?_⟩
  refine List.forall_mem_cons.mpr ⟨s_lor (by decide +kernel) rfl, ?_⟩
  refine List.forall_mem_cons.mpr ⟨s_lstore (by decide +kernel) (by decide) rfl, ?_⟩
  refine List.forall_mem_cons.mpr ⟨s_lload (by decide +kernel) rfl, ?_⟩
  refine List.forall_mem_cons.mpr ⟨s_lload (by decide +kernel) rfl, ?_⟩
  refine List.forall_mem_cons.mpr ⟨s_iload_n (j := 3) (by decide +kernel) rfl rfl, ?_⟩
  refine List.forall_mem_cons.mpr ⟨s_lushr (by decide +kernel) rfl, ?_⟩
  refine List.forall_mem_cons.mpr ⟨s_lconst (z := 1) (by decide +kernel) (by decide) rfl, ?_⟩
  refine List.forall_mem_cons.mpr ⟨s_land (by decide +kernel) rfl, ?_⟩
  refine List.forall_mem_cons.mpr ⟨s_iload (by decide +kernel) rfl, ?_⟩
  refine List.forall_mem_cons.mpr ⟨s_iload (by decide +kernel) rfl, ?_⟩
  refine List.forall_mem_cons.mpr ⟨s_iadd (by decide +kernel) rfl, ?_⟩
  refine List.forall_mem_cons.mpr ⟨s_lshl (by decide +kernel) rfl, ?_⟩
  refine List.forall_mem_cons.mpr ⟨s_lor (by decide +kernel) rfl, ?_⟩
  refine List.forall_mem_cons.mpr ⟨s_lstore (by decide +kernel) (by decide) rfl, ?_⟩
  refine List.forall_mem_cons.mpr ⟨s_iinc (by decide +kernel) (by decide) rfl, ?_⟩
  refine List.forall_mem_cons.mpr ⟨s_goto (off := (-90)) (by decide +kernel) (by decide), ?_⟩
  refine List.forall_mem_cons.mpr ⟨s_lload (by decide +kernel) rfl, ?_⟩
  refine List.forall_mem_cons.mpr ⟨s_lret rfl (by decide +kernel), ?_⟩
  exact fun q hq => absurd hq List.not_mem_nil
def T_X6_holdBody : List (Nat × zO) := [(0, o_aload 1 0), (1, o_iload 2 1), (2, o_if_ge 9 5), (5, o_const 6 (-1)), (6, o_goto 10), (9, o_const 10 5), (10, o_putf 13 6 0), (13, o_aload 14 0), (14, o_const 15 0), (15, o_iload 16 1), (16, o_mmax 19), (19, o_putf 22 6 1), (22, o_vret)]
set_option maxRecDepth 20000 in
theorem t_X6_holdBody : ∀ q ∈ T_X6_holdBody, zS k_X6_holdBody q.1 q.2 := by
  unfold T_X6_holdBody
  refine List.forall_mem_cons.mpr ⟨s_aload_n (j := 0) (by decide +kernel) rfl rfl, ?_⟩
  refine List.forall_mem_cons.mpr ⟨s_iload_n (j := 1) (by decide +kernel) rfl rfl, ?_⟩
  refine List.forall_mem_cons.mpr ⟨s_if_ge (off := 7) (by decide +kernel) (by decide) rfl, ?_⟩
  refine List.forall_mem_cons.mpr ⟨s_iconst (by decide +kernel) rfl, ?_⟩
  refine List.forall_mem_cons.mpr ⟨s_goto (off := 4) (by decide +kernel) (by decide), ?_⟩
  refine List.forall_mem_cons.mpr ⟨s_iconst (by decide +kernel) rfl, ?_⟩
  refine List.forall_mem_cons.mpr ⟨s_putf (idx := 11) (C := RX6) (T := TX6) (N := 4) rfl inX6 tyX6_ok nmX6 (by decide) rfl (tyX6_ok 0 (by decide)) (Or.inl ⟨rfl, kdI 6 0 (by decide)⟩) q2_53 (by decide +kernel) rfl, ?_⟩
  refine List.forall_mem_cons.mpr ⟨s_aload_n (j := 0) (by decide +kernel) rfl rfl, ?_⟩
  refine List.forall_mem_cons.mpr ⟨s_iconst (by decide +kernel) rfl, ?_⟩
  refine List.forall_mem_cons.mpr ⟨s_iload_n (j := 1) (by decide +kernel) rfl rfl, ?_⟩
  refine List.forall_mem_cons.mpr ⟨s_mmax (idx := 19) q4_56 q2_166b q1_12b qmaxC (by decide +kernel) rfl, ?_⟩
  refine List.forall_mem_cons.mpr ⟨s_putf (idx := 25) (C := RX6) (T := TX6) (N := 4) rfl inX6 tyX6_ok nmX6 (by decide) rfl (tyX6_ok 1 (by decide)) (Or.inl ⟨rfl, kdI 6 1 (by decide)⟩) q2_55 (by decide +kernel) rfl, ?_⟩
  refine List.forall_mem_cons.mpr ⟨s_vret rfl (by decide +kernel), ?_⟩
  exact fun q hq => absurd hq List.not_mem_nil
def T_X6_holdRow : List (Nat × zO) := [(0, o_aload 1 0), (1, o_iload 2 1), (2, o_putf 5 6 0), (5, o_aload 6 0), (6, o_iload 7 2), (7, o_putf 10 6 3), (10, o_aload 11 0), (11, o_getf 14 6 2), (14, o_lconst 15 0), (15, o_calls 2 k_J7_fill_d0a16 18), (18, o_vret)]
set_option maxRecDepth 20000 in
theorem t_X6_holdRow : ∀ q ∈ T_X6_holdRow, zS k_X6_holdRow q.1 q.2 := by
  unfold T_X6_holdRow
  refine List.forall_mem_cons.mpr ⟨s_aload_n (j := 0) (by decide +kernel) rfl rfl, ?_⟩
  refine List.forall_mem_cons.mpr ⟨s_iload_n (j := 1) (by decide +kernel) rfl rfl, ?_⟩
  refine List.forall_mem_cons.mpr ⟨s_putf (idx := 11) (C := RX6) (T := TX6) (N := 4) rfl inX6 tyX6_ok nmX6 (by decide) rfl (tyX6_ok 0 (by decide)) (Or.inl ⟨rfl, kdI 6 0 (by decide)⟩) q2_53 (by decide +kernel) rfl, ?_⟩
  refine List.forall_mem_cons.mpr ⟨s_aload_n (j := 0) (by decide +kernel) rfl rfl, ?_⟩
  refine List.forall_mem_cons.mpr ⟨s_iload_n (j := 2) (by decide +kernel) rfl rfl, ?_⟩
  refine List.forall_mem_cons.mpr ⟨s_putf (idx := 28) (C := RX6) (T := TX6) (N := 4) rfl inX6 tyX6_ok nmX6 (by decide) rfl (tyX6_ok 3 (by decide)) (Or.inl ⟨rfl, kdI 6 3 (by decide)⟩) q2_59 (by decide +kernel) rfl, ?_⟩
  refine List.forall_mem_cons.mpr ⟨s_aload_n (j := 0) (by decide +kernel) rfl rfl, ?_⟩
  refine List.forall_mem_cons.mpr ⟨s_getf (idx := 15) (C := RX6) (T := TX6) (N := 4) rfl inX6 (by decide) q2_57 (by decide +kernel) rfl, ?_⟩
  refine List.forall_mem_cons.mpr ⟨s_lconst (z := 0) (by decide +kernel) (by decide) rfl, ?_⟩
  refine List.forall_mem_cons.mpr ⟨s_calls (idx := 31) (k' := k_J7_fill_d0a16) q3_61 q4_65 q3_60 q1_13 de_J7_fill_d0a16 (by decide) (by decide +kernel) rfl, ?_⟩
  refine List.forall_mem_cons.mpr ⟨s_vret rfl (by decide +kernel), ?_⟩
  exact fun q hq => absurd hq List.not_mem_nil
def T_X6_has : List (Nat × zO) := [(0, o_iload 1 1), (1, o_if_lt 16 4), (4, o_iload 5 1), (5, o_aload 6 0), (6, o_getf 9 6 3), (9, o_icmp_ge 16 12), (12, o_const 13 1), (13, o_goto 17), (16, o_const 17 0), (17, o_zret)]
set_option maxRecDepth 20000 in
theorem t_X6_has : ∀ q ∈ T_X6_has, zS k_X6_has q.1 q.2 := by
  unfold T_X6_has
  refine List.forall_mem_cons.mpr ⟨s_iload_n (j := 1) (by decide +kernel) rfl rfl, ?_⟩
  refine List.forall_mem_cons.mpr ⟨s_if_lt (off := 15) (by decide +kernel) (by decide) rfl, ?_⟩
  refine List.forall_mem_cons.mpr ⟨s_iload_n (j := 1) (by decide +kernel) rfl rfl, ?_⟩
  refine List.forall_mem_cons.mpr ⟨s_aload_n (j := 0) (by decide +kernel) rfl rfl, ?_⟩
  refine List.forall_mem_cons.mpr ⟨s_getf (idx := 28) (C := RX6) (T := TX6) (N := 4) rfl inX6 (by decide) q2_59 (by decide +kernel) rfl, ?_⟩
  refine List.forall_mem_cons.mpr ⟨s_icmp_ge (off := 7) (by decide +kernel) (by decide) rfl, ?_⟩
  refine List.forall_mem_cons.mpr ⟨s_iconst (by decide +kernel) rfl, ?_⟩
  refine List.forall_mem_cons.mpr ⟨s_goto (off := 4) (by decide +kernel) (by decide), ?_⟩
  refine List.forall_mem_cons.mpr ⟨s_iconst (by decide +kernel) rfl, ?_⟩
  refine List.forall_mem_cons.mpr ⟨s_zret rfl (by decide +kernel), ?_⟩
  exact fun q hq => absurd hq List.not_mem_nil
def T_X6_hasRun : List (Nat × zO) := [(0, o_iload 1 1), (1, o_if_lt 30 4), (4, o_iload 5 2), (5, o_if_lt 30 8), (8, o_iload 9 2), (9, o_aload 10 0), (10, o_getf 13 6 3), (13, o_icmp_gt 30 16), (16, o_iload 17 1), (17, o_aload 18 0), (18, o_getf 21 6 3), (21, o_iload 22 2), (22, o_isub 23), (23, o_icmp_gt 30 26), (26, o_const 27 1), (27, o_goto 31), (30, o_const 31 0), (31, o_zret)]
set_option maxRecDepth 20000 in
theorem t_X6_hasRun : ∀ q ∈ T_X6_hasRun, zS k_X6_hasRun q.1 q.2 := by
  unfold T_X6_hasRun
  refine List.forall_mem_cons.mpr ⟨s_iload_n (j := 1) (by decide +kernel) rfl rfl, ?_⟩
  refine List.forall_mem_cons.mpr ⟨s_if_lt (off := 29) (by decide +kernel) (by decide) rfl, ?_⟩
  refine List.forall_mem_cons.mpr ⟨s_iload_n (j := 2) (by decide +kernel) rfl rfl, ?_⟩
  refine List.forall_mem_cons.mpr ⟨s_if_lt (off := 25) (by decide +kernel) (by decide) rfl, ?_⟩
  refine List.forall_mem_cons.mpr ⟨s_iload_n (j := 2) (by decide +kernel) rfl rfl, ?_⟩
  refine List.forall_mem_cons.mpr ⟨s_aload_n (j := 0) (by decide +kernel) rfl rfl, ?_⟩
  refine List.forall_mem_cons.mpr ⟨s_getf (idx := 28) (C := RX6) (T := TX6) (N := 4) rfl inX6 (by decide) q2_59 (by decide +kernel) rfl, ?_⟩
  refine List.forall_mem_cons.mpr ⟨s_icmp_gt (off := 17) (by decide +kernel) (by decide) rfl, ?_⟩
  refine List.forall_mem_cons.mpr ⟨s_iload_n (j := 1) (by decide +kernel) rfl rfl, ?_⟩
  refine List.forall_mem_cons.mpr ⟨s_aload_n (j := 0) (by decide +kernel) rfl rfl, ?_⟩
  refine List.forall_mem_cons.mpr ⟨s_getf (idx := 28) (C := RX6) (T := TX6) (N := 4) rfl inX6 (by decide) q2_59 (by decide +kernel) rfl, ?_⟩
  refine List.forall_mem_cons.mpr ⟨s_iload_n (j := 2) (by decide +kernel) rfl rfl, ?_⟩
  refine List.forall_mem_cons.mpr ⟨s_isub (by decide +kernel) rfl, ?_⟩
  refine List.forall_mem_cons.mpr ⟨s_icmp_gt (off := 7) (by decide +kernel) (by decide) rfl, ?_⟩
  refine List.forall_mem_cons.mpr ⟨s_iconst (by decide +kernel) rfl, ?_⟩
  refine List.forall_mem_cons.mpr ⟨s_goto (off := 4) (by decide +kernel) (by decide), ?_⟩
  refine List.forall_mem_cons.mpr ⟨s_iconst (by decide +kernel) rfl, ?_⟩
  refine List.forall_mem_cons.mpr ⟨s_zret rfl (by decide +kernel), ?_⟩
  exact fun q hq => absurd hq List.not_mem_nil
def T_X6_kept : List (Nat × zO) := [(0, o_aload 1 0), (1, o_getf 4 6 0), (4, o_tsw 0 4 [40, 45, 50, 66, 54] 66), (40, o_lload 41 1), (41, o_l2i 42), (42, o_i2b 43), (43, o_i2l 44), (44, o_lret), (45, o_lload 46 1), (46, o_l2i 47), (47, o_i2s 48), (48, o_i2l 49), (49, o_lret), (50, o_lload 51 1), (51, o_l2i 52), (52, o_i2l 53), (53, o_lret), (54, o_lload 55 1), (55, o_lconst 56 0), (56, o_lcmp 57), (57, o_if_eq 64 60), (60, o_lconst 61 1), (61, o_goto 65), (64, o_lconst 65 0), (65, o_lret), (66, o_lload 67 1), (67, o_lret)]
set_option maxRecDepth 20000 in
theorem t_X6_kept : ∀ q ∈ T_X6_kept, zS k_X6_kept q.1 q.2 := by
  unfold T_X6_kept
  refine List.forall_mem_cons.mpr ⟨s_aload_n (j := 0) (by decide +kernel) rfl rfl, ?_⟩
  refine List.forall_mem_cons.mpr ⟨s_getf (idx := 11) (C := RX6) (T := TX6) (N := 4) rfl inX6 (by decide) q2_53 (by decide +kernel) rfl, ?_⟩
  refine List.forall_mem_cons.mpr ⟨s_tsw (dfo := 62) (offs := #[36, 41, 46, 62, 50]) (len := 36) (by decide +kernel) (by decide) (by decide) (by decide), ?_⟩
  refine List.forall_mem_cons.mpr ⟨s_lload_n (j := 1) (by decide +kernel) rfl rfl, ?_⟩
  refine List.forall_mem_cons.mpr ⟨s_l2i (by decide +kernel) rfl, ?_⟩
  refine List.forall_mem_cons.mpr ⟨s_i2b (by decide +kernel) rfl, ?_⟩
  refine List.forall_mem_cons.mpr ⟨s_i2l (by decide +kernel) rfl, ?_⟩
  refine List.forall_mem_cons.mpr ⟨s_lret rfl (by decide +kernel), ?_⟩
  refine List.forall_mem_cons.mpr ⟨s_lload_n (j := 1) (by decide +kernel) rfl rfl, ?_⟩
  refine List.forall_mem_cons.mpr ⟨s_l2i (by decide +kernel) rfl, ?_⟩
  refine List.forall_mem_cons.mpr ⟨s_i2s (by decide +kernel) rfl, ?_⟩
  refine List.forall_mem_cons.mpr ⟨s_i2l (by decide +kernel) rfl, ?_⟩
  refine List.forall_mem_cons.mpr ⟨s_lret rfl (by decide +kernel), ?_⟩
  refine List.forall_mem_cons.mpr ⟨s_lload_n (j := 1) (by decide +kernel) rfl rfl, ?_⟩
  refine List.forall_mem_cons.mpr ⟨s_l2i (by decide +kernel) rfl, ?_⟩
  refine List.forall_mem_cons.mpr ⟨s_i2l (by decide +kernel) rfl, ?_⟩
  refine List.forall_mem_cons.mpr ⟨s_lret rfl (by decide +kernel), ?_⟩
  refine List.forall_mem_cons.mpr ⟨s_lload_n (j := 1) (by decide +kernel) rfl rfl, ?_⟩
  refine List.forall_mem_cons.mpr ⟨s_lconst (z := 0) (by decide +kernel) (by decide) rfl, ?_⟩
  refine List.forall_mem_cons.mpr ⟨s_lcmp (by decide +kernel) rfl, ?_⟩
  refine List.forall_mem_cons.mpr ⟨s_if_eq (off := 7) (by decide +kernel) (by decide) rfl, ?_⟩
  refine List.forall_mem_cons.mpr ⟨s_lconst (z := 1) (by decide +kernel) (by decide) rfl, ?_⟩
  refine List.forall_mem_cons.mpr ⟨s_goto (off := 4) (by decide +kernel) (by decide), ?_⟩
  refine List.forall_mem_cons.mpr ⟨s_lconst (z := 0) (by decide +kernel) (by decide) rfl, ?_⟩
  refine List.forall_mem_cons.mpr ⟨s_lret rfl (by decide +kernel), ?_⟩
  refine List.forall_mem_cons.mpr ⟨s_lload_n (j := 1) (by decide +kernel) rfl rfl, ?_⟩
  refine List.forall_mem_cons.mpr ⟨s_lret rfl (by decide +kernel), ?_⟩
  exact fun q hq => absurd hq List.not_mem_nil
def T_X7_add : List (Nat × zO) := [(0, o_aload 1 0), (1, o_getf 4 7 1), (4, o_iload 5 1), (5, o_iadd 6), (6, o_const 8 120), (8, o_icmp_le 13 11), (11, o_const 12 0), (12, o_zret), (13, o_const 14 0), (14, o_istore 15 3), (15, o_iload 16 3), (16, o_iload 17 1), (17, o_icmp_ge 55 20), (20, o_aload 21 0), (21, o_getf 24 7 0), (24, o_aload 25 0), (25, o_getf 28 7 1), (28, o_iload 29 2), (29, o_const 31 8), (31, o_iload 32 3), (32, o_imul 33), (33, o_iushr 34), (34, o_const 37 255), (37, o_iand 38), (38, o_iast 39), (39, o_aload 40 0), (40, o_dup 41), (41, o_getf 44 7 1), (44, o_const 45 1), (45, o_iadd 46), (46, o_putf 49 7 1), (49, o_iinc 52 3 1), (52, o_goto 15), (55, o_const 56 1), (56, o_zret)]
set_option maxRecDepth 20000 in
theorem t_X7_add : ∀ q ∈ T_X7_add, zS k_X7_add q.1 q.2 := by
  unfold T_X7_add
  refine List.forall_mem_cons.mpr ⟨s_aload_n (j := 0) (by decide +kernel) rfl rfl, ?_⟩
  refine List.forall_mem_cons.mpr ⟨s_getf (idx := 21) (C := RX7) (T := TX7) (N := 6) rfl inX7 (by decide) q1_29 (by decide +kernel) rfl, ?_⟩
  refine List.forall_mem_cons.mpr ⟨s_iload_n (j := 1) (by decide +kernel) rfl rfl, ?_⟩
  refine List.forall_mem_cons.mpr ⟨s_iadd (by decide +kernel) rfl, ?_⟩
  refine List.forall_mem_cons.mpr ⟨s_bipush (by decide +kernel) (by decide) rfl, ?_⟩
  refine List.forall_mem_cons.mpr ⟨s_icmp_le (off := 5) (by decide +kernel) (by decide) rfl, ?_⟩
  refine List.forall_mem_cons.mpr ⟨s_iconst (by decide +kernel) rfl, ?_⟩
  refine List.forall_mem_cons.mpr ⟨s_zret rfl (by decide +kernel), ?_⟩
  refine List.forall_mem_cons.mpr ⟨s_iconst (by decide +kernel) rfl, ?_⟩
  refine List.forall_mem_cons.mpr ⟨s_istore_n (j := 3) (by decide +kernel) rfl (by decide) rfl, ?_⟩
  refine List.forall_mem_cons.mpr ⟨s_iload_n (j := 3) (by decide +kernel) rfl rfl, ?_⟩
  refine List.forall_mem_cons.mpr ⟨s_iload_n (j := 1) (by decide +kernel) rfl rfl, ?_⟩
  refine List.forall_mem_cons.mpr ⟨s_icmp_ge (off := 38) (by decide +kernel) (by decide) rfl, ?_⟩
  refine List.forall_mem_cons.mpr ⟨s_aload_n (j := 0) (by decide +kernel) rfl rfl, ?_⟩
  refine List.forall_mem_cons.mpr ⟨s_getf (idx := 9) (C := RX7) (T := TX7) (N := 6) rfl inX7 (by decide) q1_28 (by decide +kernel) rfl, ?_⟩
  refine List.forall_mem_cons.mpr ⟨s_aload_n (j := 0) (by decide +kernel) rfl rfl, ?_⟩
  refine List.forall_mem_cons.mpr ⟨s_getf (idx := 21) (C := RX7) (T := TX7) (N := 6) rfl inX7 (by decide) q1_29 (by decide +kernel) rfl, ?_⟩
  refine List.forall_mem_cons.mpr ⟨s_iload_n (j := 2) (by decide +kernel) rfl rfl, ?_⟩
  refine List.forall_mem_cons.mpr ⟨s_bipush (by decide +kernel) (by decide) rfl, ?_⟩
  refine List.forall_mem_cons.mpr ⟨s_iload_n (j := 3) (by decide +kernel) rfl rfl, ?_⟩
  refine List.forall_mem_cons.mpr ⟨s_imul (by decide +kernel) rfl, ?_⟩
  refine List.forall_mem_cons.mpr ⟨s_iushr (by decide +kernel) rfl, ?_⟩
  refine List.forall_mem_cons.mpr ⟨s_sipush (by decide +kernel) (by decide) rfl, ?_⟩
  refine List.forall_mem_cons.mpr ⟨s_iand (by decide +kernel) rfl, ?_⟩
  refine List.forall_mem_cons.mpr ⟨s_iast (by decide +kernel) rfl, ?_⟩
  refine List.forall_mem_cons.mpr ⟨s_aload_n (j := 0) (by decide +kernel) rfl rfl, ?_⟩
  refine List.forall_mem_cons.mpr ⟨s_dup (by decide +kernel) rfl, ?_⟩
  refine List.forall_mem_cons.mpr ⟨s_getf (idx := 21) (C := RX7) (T := TX7) (N := 6) rfl inX7 (by decide) q1_29 (by decide +kernel) rfl, ?_⟩
  refine List.forall_mem_cons.mpr ⟨s_iconst (by decide +kernel) rfl, ?_⟩
  refine List.forall_mem_cons.mpr ⟨s_iadd (by decide +kernel) rfl, ?_⟩
  refine List.forall_mem_cons.mpr ⟨s_putf (idx := 21) (C := RX7) (T := TX7) (N := 6) rfl inX7 tyX7_ok nmX7 (by decide) rfl (tyX7_ok 1 (by decide)) (Or.inl ⟨rfl, kdI 7 1 (by decide)⟩) q1_29 (by decide +kernel) rfl, ?_⟩
  refine List.forall_mem_cons.mpr ⟨s_iinc (by decide +kernel) (by decide) rfl, ?_⟩
  refine List.forall_mem_cons.mpr ⟨s_goto (off := (-37)) (by decide +kernel) (by decide), ?_⟩
  refine List.forall_mem_cons.mpr ⟨s_iconst (by decide +kernel) rfl, ?_⟩
  refine List.forall_mem_cons.mpr ⟨s_zret rfl (by decide +kernel), ?_⟩
  exact fun q hq => absurd hq List.not_mem_nil
def T_X7_read : List (Nat × zO) := [(0, o_aload 1 0), (1, o_const 2 0), (2, o_putf 5 7 5), (5, o_aload 6 0), (6, o_const 7 0), (7, o_putf 10 7 4), (10, o_const 11 (-1)), (11, o_istore 12 1), (12, o_aload 13 0), (13, o_getf 16 7 4), (16, o_const 18 12), (18, o_icmp_ge 120 21), (21, o_aload 22 0), (22, o_iload 23 1), (23, o_callv 1 7 k_X7_readMinute 26), (26, o_istore 27 2), (27, o_iload 28 2), (28, o_const 29 (-1)), (29, o_icmp_eq 34 32), (32, o_iload 33 2), (33, o_iret), (34, o_aload 35 0), (35, o_callv 0 7 k_X7_readHeight 38), (38, o_istore 39 2), (39, o_iload 40 2), (40, o_const 41 (-1)), (41, o_icmp_eq 46 44), (44, o_iload 45 2), (45, o_iret), (46, o_aload 47 0), (47, o_getf 50 7 2), (50, o_aload 51 0), (51, o_getf 54 7 4), (54, o_iald 55), (55, o_istore 56 1), (56, o_aload 57 0), (57, o_dup 58), (58, o_getf 61 7 4), (61, o_const 62 1), (62, o_iadd 63), (63, o_putf 66 7 4), (66, o_aload 67 0), (67, o_getf 70 7 5), (70, o_aload 71 0), (71, o_getf 74 7 1), (74, o_icmp_lt 79 77), (77, o_const 78 (-1)), (78, o_iret), (79, o_aload 80 0), (80, o_getf 83 7 0), (83, o_aload 84 0), (84, o_getf 87 7 5), (87, o_iald 88), (88, o_const 90 59), (90, o_icmp_ne 102 93), (93, o_aload 94 0), (94, o_getf 97 7 4), (97, o_const 99 12), (99, o_icmp_ne 107 102), (102, o_aload 103 0), (103, o_getf 106 7 5), (106, o_iret), (107, o_aload 108 0), (108, o_dup 109), (109, o_getf 112 7 5), (112, o_const 113 1), (113, o_iadd 114), (114, o_putf 117 7 5), (117, o_goto 12), (120, o_aload 121 0), (121, o_getf 124 7 5), (124, o_iret)]
set_option maxRecDepth 20000 in
theorem t_X7_read : ∀ q ∈ T_X7_read, zS k_X7_read q.1 q.2 := by
  unfold T_X7_read
  refine List.forall_mem_cons.mpr ⟨s_aload_n (j := 0) (by decide +kernel) rfl rfl, ?_⟩
  refine List.forall_mem_cons.mpr ⟨s_iconst (by decide +kernel) rfl, ?_⟩
  refine List.forall_mem_cons.mpr ⟨s_putf (idx := 25) (C := RX7) (T := TX7) (N := 6) rfl inX7 tyX7_ok nmX7 (by decide) rfl (tyX7_ok 5 (by decide)) (Or.inl ⟨rfl, kdI 7 5 (by decide)⟩) q1_37 (by decide +kernel) rfl, ?_⟩
  refine List.forall_mem_cons.mpr ⟨s_aload_n (j := 0) (by decide +kernel) rfl rfl, ?_⟩
  refine List.forall_mem_cons.mpr ⟨s_iconst (by decide +kernel) rfl, ?_⟩
  refine List.forall_mem_cons.mpr ⟨s_putf (idx := 28) (C := RX7) (T := TX7) (N := 6) rfl inX7 tyX7_ok nmX7 (by decide) rfl (tyX7_ok 4 (by decide)) (Or.inl ⟨rfl, kdI 7 4 (by decide)⟩) q1_35 (by decide +kernel) rfl, ?_⟩
  refine List.forall_mem_cons.mpr ⟨s_iconst (by decide +kernel) rfl, ?_⟩
  refine List.forall_mem_cons.mpr ⟨s_istore_n (j := 1) (by decide +kernel) rfl (by decide) rfl, ?_⟩
  refine List.forall_mem_cons.mpr ⟨s_aload_n (j := 0) (by decide +kernel) rfl rfl, ?_⟩
  refine List.forall_mem_cons.mpr ⟨s_getf (idx := 28) (C := RX7) (T := TX7) (N := 6) rfl inX7 (by decide) q1_35 (by decide +kernel) rfl, ?_⟩
  refine List.forall_mem_cons.mpr ⟨s_bipush (by decide +kernel) (by decide) rfl, ?_⟩
  refine List.forall_mem_cons.mpr ⟨s_icmp_ge (off := 102) (by decide +kernel) (by decide) rfl, ?_⟩
  refine List.forall_mem_cons.mpr ⟨s_aload_n (j := 0) (by decide +kernel) rfl rfl, ?_⟩
  refine List.forall_mem_cons.mpr ⟨s_iload_n (j := 1) (by decide +kernel) rfl rfl, ?_⟩
  refine List.forall_mem_cons.mpr ⟨s_callv (idx := 31) (k' := k_X7_readMinute) (T := TX7) (N := 6) rfl q2_119 q2_116 q2_118 qs_0 q1_2 de_X7_readMinute (by decide) (by decide +kernel) rfl, ?_⟩
  refine List.forall_mem_cons.mpr ⟨s_istore_n (j := 2) (by decide +kernel) rfl (by decide) rfl, ?_⟩
  refine List.forall_mem_cons.mpr ⟨s_iload_n (j := 2) (by decide +kernel) rfl rfl, ?_⟩
  refine List.forall_mem_cons.mpr ⟨s_iconst (by decide +kernel) rfl, ?_⟩
  refine List.forall_mem_cons.mpr ⟨s_icmp_eq (off := 5) (by decide +kernel) (by decide) rfl, ?_⟩
  refine List.forall_mem_cons.mpr ⟨s_iload_n (j := 2) (by decide +kernel) rfl rfl, ?_⟩
  refine List.forall_mem_cons.mpr ⟨s_iret rfl (by decide +kernel), ?_⟩
  refine List.forall_mem_cons.mpr ⟨s_aload_n (j := 0) (by decide +kernel) rfl rfl, ?_⟩
  refine List.forall_mem_cons.mpr ⟨s_callv (idx := 35) (k' := k_X7_readHeight) (T := TX7) (N := 6) rfl q2_131 q2_128 q2_130 qs_3 q1_2 de_X7_readHeight (by decide) (by decide +kernel) rfl, ?_⟩
  refine List.forall_mem_cons.mpr ⟨s_istore_n (j := 2) (by decide +kernel) rfl (by decide) rfl, ?_⟩
  refine List.forall_mem_cons.mpr ⟨s_iload_n (j := 2) (by decide +kernel) rfl rfl, ?_⟩
  refine List.forall_mem_cons.mpr ⟨s_iconst (by decide +kernel) rfl, ?_⟩
  refine List.forall_mem_cons.mpr ⟨s_icmp_eq (off := 5) (by decide +kernel) (by decide) rfl, ?_⟩
  refine List.forall_mem_cons.mpr ⟨s_iload_n (j := 2) (by decide +kernel) rfl rfl, ?_⟩
  refine List.forall_mem_cons.mpr ⟨s_iret rfl (by decide +kernel), ?_⟩
  refine List.forall_mem_cons.mpr ⟨s_aload_n (j := 0) (by decide +kernel) rfl rfl, ?_⟩
  refine List.forall_mem_cons.mpr ⟨s_getf (idx := 15) (C := RX7) (T := TX7) (N := 6) rfl inX7 (by decide) q1_31 (by decide +kernel) rfl, ?_⟩
  refine List.forall_mem_cons.mpr ⟨s_aload_n (j := 0) (by decide +kernel) rfl rfl, ?_⟩
  refine List.forall_mem_cons.mpr ⟨s_getf (idx := 28) (C := RX7) (T := TX7) (N := 6) rfl inX7 (by decide) q1_35 (by decide +kernel) rfl, ?_⟩
  refine List.forall_mem_cons.mpr ⟨s_iald (by decide +kernel) rfl, ?_⟩
  refine List.forall_mem_cons.mpr ⟨s_istore_n (j := 1) (by decide +kernel) rfl (by decide) rfl, ?_⟩
  refine List.forall_mem_cons.mpr ⟨s_aload_n (j := 0) (by decide +kernel) rfl rfl, ?_⟩
  refine List.forall_mem_cons.mpr ⟨s_dup (by decide +kernel) rfl, ?_⟩
  refine List.forall_mem_cons.mpr ⟨s_getf (idx := 28) (C := RX7) (T := TX7) (N := 6) rfl inX7 (by decide) q1_35 (by decide +kernel) rfl, ?_⟩
  refine List.forall_mem_cons.mpr ⟨s_iconst (by decide +kernel) rfl, ?_⟩
  refine List.forall_mem_cons.mpr ⟨s_iadd (by decide +kernel) rfl, ?_⟩
  refine List.forall_mem_cons.mpr ⟨s_putf (idx := 28) (C := RX7) (T := TX7) (N := 6) rfl inX7 tyX7_ok nmX7 (by decide) rfl (tyX7_ok 4 (by decide)) (Or.inl ⟨rfl, kdI 7 4 (by decide)⟩) q1_35 (by decide +kernel) rfl, ?_⟩
  refine List.forall_mem_cons.mpr ⟨s_aload_n (j := 0) (by decide +kernel) rfl rfl, ?_⟩
  refine List.forall_mem_cons.mpr ⟨s_getf (idx := 25) (C := RX7) (T := TX7) (N := 6) rfl inX7 (by decide) q1_37 (by decide +kernel) rfl, ?_⟩
  refine List.forall_mem_cons.mpr ⟨s_aload_n (j := 0) (by decide +kernel) rfl rfl, ?_⟩
  refine List.forall_mem_cons.mpr ⟨s_getf (idx := 21) (C := RX7) (T := TX7) (N := 6) rfl inX7 (by decide) q1_29 (by decide +kernel) rfl, ?_⟩
  refine List.forall_mem_cons.mpr ⟨s_icmp_lt (off := 5) (by decide +kernel) (by decide) rfl, ?_⟩
  refine List.forall_mem_cons.mpr ⟨s_iconst (by decide +kernel) rfl, ?_⟩
  refine List.forall_mem_cons.mpr ⟨s_iret rfl (by decide +kernel), ?_⟩
  refine List.forall_mem_cons.mpr ⟨s_aload_n (j := 0) (by decide +kernel) rfl rfl, ?_⟩
  refine List.forall_mem_cons.mpr ⟨s_getf (idx := 9) (C := RX7) (T := TX7) (N := 6) rfl inX7 (by decide) q1_28 (by decide +kernel) rfl, ?_⟩
  refine List.forall_mem_cons.mpr ⟨s_aload_n (j := 0) (by decide +kernel) rfl rfl, ?_⟩
  refine List.forall_mem_cons.mpr ⟨s_getf (idx := 25) (C := RX7) (T := TX7) (N := 6) rfl inX7 (by decide) q1_37 (by decide +kernel) rfl, ?_⟩
  refine List.forall_mem_cons.mpr ⟨s_iald (by decide +kernel) rfl, ?_⟩
  refine List.forall_mem_cons.mpr ⟨s_bipush (by decide +kernel) (by decide) rfl, ?_⟩
  refine List.forall_mem_cons.mpr ⟨s_icmp_ne (off := 12) (by decide +kernel) (by decide) rfl, ?_⟩
  refine List.forall_mem_cons.mpr ⟨s_aload_n (j := 0) (by decide +kernel) rfl rfl, ?_⟩
  refine List.forall_mem_cons.mpr ⟨s_getf (idx := 28) (C := RX7) (T := TX7) (N := 6) rfl inX7 (by decide) q1_35 (by decide +kernel) rfl, ?_⟩
  refine List.forall_mem_cons.mpr ⟨s_bipush (by decide +kernel) (by decide) rfl, ?_⟩
  refine List.forall_mem_cons.mpr ⟨s_icmp_ne (off := 8) (by decide +kernel) (by decide) rfl, ?_⟩
  refine List.forall_mem_cons.mpr ⟨s_aload_n (j := 0) (by decide +kernel) rfl rfl, ?_⟩
  refine List.forall_mem_cons.mpr ⟨s_getf (idx := 25) (C := RX7) (T := TX7) (N := 6) rfl inX7 (by decide) q1_37 (by decide +kernel) rfl, ?_⟩
  refine List.forall_mem_cons.mpr ⟨s_iret rfl (by decide +kernel), ?_⟩
  refine List.forall_mem_cons.mpr ⟨s_aload_n (j := 0) (by decide +kernel) rfl rfl, ?_⟩
  refine List.forall_mem_cons.mpr ⟨s_dup (by decide +kernel) rfl, ?_⟩
  refine List.forall_mem_cons.mpr ⟨s_getf (idx := 25) (C := RX7) (T := TX7) (N := 6) rfl inX7 (by decide) q1_37 (by decide +kernel) rfl, ?_⟩
  refine List.forall_mem_cons.mpr ⟨s_iconst (by decide +kernel) rfl, ?_⟩
  refine List.forall_mem_cons.mpr ⟨s_iadd (by decide +kernel) rfl, ?_⟩
  refine List.forall_mem_cons.mpr ⟨s_putf (idx := 25) (C := RX7) (T := TX7) (N := 6) rfl inX7 tyX7_ok nmX7 (by decide) rfl (tyX7_ok 5 (by decide)) (Or.inl ⟨rfl, kdI 7 5 (by decide)⟩) q1_37 (by decide +kernel) rfl, ?_⟩
  refine List.forall_mem_cons.mpr ⟨s_goto (off := (-105)) (by decide +kernel) (by decide), ?_⟩
  refine List.forall_mem_cons.mpr ⟨s_aload_n (j := 0) (by decide +kernel) rfl rfl, ?_⟩
  refine List.forall_mem_cons.mpr ⟨s_getf (idx := 25) (C := RX7) (T := TX7) (N := 6) rfl inX7 (by decide) q1_37 (by decide +kernel) rfl, ?_⟩
  refine List.forall_mem_cons.mpr ⟨s_iret rfl (by decide +kernel), ?_⟩
  exact fun q hq => absurd hq List.not_mem_nil
def T_X7_readMinute : List (Nat × zO) := [(0, o_aload 1 0), (1, o_getf 4 7 5), (4, o_istore 5 2), (5, o_aload 6 0), (6, o_const 7 4), (7, o_callv 1 7 k_X7_readNumber 10), (10, o_istore 11 3), (11, o_aload 12 0), (12, o_getf 15 7 5), (15, o_iload 16 2), (16, o_icmp_ne 24 19), (19, o_aload 20 0), (20, o_getf 23 7 5), (23, o_iret), (24, o_iload 25 3), (25, o_iload 26 1), (26, o_icmp_le 36 29), (29, o_iload 30 3), (30, o_const 33 1439), (33, o_icmp_le 38 36), (36, o_iload 37 2), (37, o_iret), (38, o_aload 39 0), (39, o_getf 42 7 5), (42, o_aload 43 0), (43, o_getf 46 7 1), (46, o_icmp_ge 63 49), (49, o_aload 50 0), (50, o_getf 53 7 0), (53, o_aload 54 0), (54, o_getf 57 7 5), (57, o_iald 58), (58, o_const 60 58), (60, o_icmp_eq 68 63), (63, o_aload 64 0), (64, o_getf 67 7 5), (67, o_iret), (68, o_aload 69 0), (69, o_dup 70), (70, o_getf 73 7 5), (73, o_const 74 1), (74, o_iadd 75), (75, o_putf 78 7 5), (78, o_aload 79 0), (79, o_getf 82 7 2), (82, o_aload 83 0), (83, o_getf 86 7 4), (86, o_iload 87 3), (87, o_iast 88), (88, o_const 89 (-1)), (89, o_iret)]
set_option maxRecDepth 20000 in
theorem t_X7_readMinute : ∀ q ∈ T_X7_readMinute, zS k_X7_readMinute q.1 q.2 := by
  unfold T_X7_readMinute
  refine List.forall_mem_cons.mpr ⟨s_aload_n (j := 0) (by decide +kernel) rfl rfl, ?_⟩
  refine List.forall_mem_cons.mpr ⟨s_getf (idx := 25) (C := RX7) (T := TX7) (N := 6) rfl inX7 (by decide) q1_37 (by decide +kernel) rfl, ?_⟩
  refine List.forall_mem_cons.mpr ⟨s_istore_n (j := 2) (by decide +kernel) rfl (by decide) rfl, ?_⟩
  refine List.forall_mem_cons.mpr ⟨s_aload_n (j := 0) (by decide +kernel) rfl rfl, ?_⟩
  refine List.forall_mem_cons.mpr ⟨s_iconst (by decide +kernel) rfl, ?_⟩
  refine List.forall_mem_cons.mpr ⟨s_callv (idx := 39) (k' := k_X7_readNumber) (T := TX7) (N := 6) rfl q2_123 q2_120 q2_122 qs_1 q1_2 de_X7_readNumber (by decide) (by decide +kernel) rfl, ?_⟩
  refine List.forall_mem_cons.mpr ⟨s_istore_n (j := 3) (by decide +kernel) rfl (by decide) rfl, ?_⟩
  refine List.forall_mem_cons.mpr ⟨s_aload_n (j := 0) (by decide +kernel) rfl rfl, ?_⟩
  refine List.forall_mem_cons.mpr ⟨s_getf (idx := 25) (C := RX7) (T := TX7) (N := 6) rfl inX7 (by decide) q1_37 (by decide +kernel) rfl, ?_⟩
  refine List.forall_mem_cons.mpr ⟨s_iload_n (j := 2) (by decide +kernel) rfl rfl, ?_⟩
  refine List.forall_mem_cons.mpr ⟨s_icmp_ne (off := 8) (by decide +kernel) (by decide) rfl, ?_⟩
  refine List.forall_mem_cons.mpr ⟨s_aload_n (j := 0) (by decide +kernel) rfl rfl, ?_⟩
  refine List.forall_mem_cons.mpr ⟨s_getf (idx := 25) (C := RX7) (T := TX7) (N := 6) rfl inX7 (by decide) q1_37 (by decide +kernel) rfl, ?_⟩
  refine List.forall_mem_cons.mpr ⟨s_iret rfl (by decide +kernel), ?_⟩
  refine List.forall_mem_cons.mpr ⟨s_iload_n (j := 3) (by decide +kernel) rfl rfl, ?_⟩
  refine List.forall_mem_cons.mpr ⟨s_iload_n (j := 1) (by decide +kernel) rfl rfl, ?_⟩
  refine List.forall_mem_cons.mpr ⟨s_icmp_le (off := 10) (by decide +kernel) (by decide) rfl, ?_⟩
  refine List.forall_mem_cons.mpr ⟨s_iload_n (j := 3) (by decide +kernel) rfl rfl, ?_⟩
  refine List.forall_mem_cons.mpr ⟨s_sipush (by decide +kernel) (by decide) rfl, ?_⟩
  refine List.forall_mem_cons.mpr ⟨s_icmp_le (off := 5) (by decide +kernel) (by decide) rfl, ?_⟩
  refine List.forall_mem_cons.mpr ⟨s_iload_n (j := 2) (by decide +kernel) rfl rfl, ?_⟩
  refine List.forall_mem_cons.mpr ⟨s_iret rfl (by decide +kernel), ?_⟩
  refine List.forall_mem_cons.mpr ⟨s_aload_n (j := 0) (by decide +kernel) rfl rfl, ?_⟩
  refine List.forall_mem_cons.mpr ⟨s_getf (idx := 25) (C := RX7) (T := TX7) (N := 6) rfl inX7 (by decide) q1_37 (by decide +kernel) rfl, ?_⟩
  refine List.forall_mem_cons.mpr ⟨s_aload_n (j := 0) (by decide +kernel) rfl rfl, ?_⟩
  refine List.forall_mem_cons.mpr ⟨s_getf (idx := 21) (C := RX7) (T := TX7) (N := 6) rfl inX7 (by decide) q1_29 (by decide +kernel) rfl, ?_⟩
  refine List.forall_mem_cons.mpr ⟨s_icmp_ge (off := 17) (by decide +kernel) (by decide) rfl, ?_⟩
  refine List.forall_mem_cons.mpr ⟨s_aload_n (j := 0) (by decide +kernel) rfl rfl, ?_⟩
  refine List.forall_mem_cons.mpr ⟨s_getf (idx := 9) (C := RX7) (T := TX7) (N := 6) rfl inX7 (by decide) q1_28 (by decide +kernel) rfl, ?_⟩
  refine List.forall_mem_cons.mpr ⟨s_aload_n (j := 0) (by decide +kernel) rfl rfl, ?_⟩
  refine List.forall_mem_cons.mpr ⟨s_getf (idx := 25) (C := RX7) (T := TX7) (N := 6) rfl inX7 (by decide) q1_37 (by decide +kernel) rfl, ?_⟩
  refine List.forall_mem_cons.mpr ⟨s_iald (by decide +kernel) rfl, ?_⟩
  refine List.forall_mem_cons.mpr ⟨s_bipush (by decide +kernel) (by decide) rfl, ?_⟩
  refine List.forall_mem_cons.mpr ⟨s_icmp_eq (off := 8) (by decide +kernel) (by decide) rfl, ?_⟩
  refine List.forall_mem_cons.mpr ⟨s_aload_n (j := 0) (by decide +kernel) rfl rfl, ?_⟩
  refine List.forall_mem_cons.mpr ⟨s_getf (idx := 25) (C := RX7) (T := TX7) (N := 6) rfl inX7 (by decide) q1_37 (by decide +kernel) rfl, ?_⟩
  refine List.forall_mem_cons.mpr ⟨s_iret rfl (by decide +kernel), ?_⟩
  refine List.forall_mem_cons.mpr ⟨s_aload_n (j := 0) (by decide +kernel) rfl rfl, ?_⟩
  refine List.forall_mem_cons.mpr ⟨s_dup (by decide +kernel) rfl, ?_⟩
  refine List.forall_mem_cons.mpr ⟨s_getf (idx := 25) (C := RX7) (T := TX7) (N := 6) rfl inX7 (by decide) q1_37 (by decide +kernel) rfl, ?_⟩
  refine List.forall_mem_cons.mpr ⟨s_iconst (by decide +kernel) rfl, ?_⟩
  refine List.forall_mem_cons.mpr ⟨s_iadd (by decide +kernel) rfl, ?_⟩
  refine List.forall_mem_cons.mpr ⟨s_putf (idx := 25) (C := RX7) (T := TX7) (N := 6) rfl inX7 tyX7_ok nmX7 (by decide) rfl (tyX7_ok 5 (by decide)) (Or.inl ⟨rfl, kdI 7 5 (by decide)⟩) q1_37 (by decide +kernel) rfl, ?_⟩
  refine List.forall_mem_cons.mpr ⟨s_aload_n (j := 0) (by decide +kernel) rfl rfl, ?_⟩
  refine List.forall_mem_cons.mpr ⟨s_getf (idx := 15) (C := RX7) (T := TX7) (N := 6) rfl inX7 (by decide) q1_31 (by decide +kernel) rfl, ?_⟩
  refine List.forall_mem_cons.mpr ⟨s_aload_n (j := 0) (by decide +kernel) rfl rfl, ?_⟩
  refine List.forall_mem_cons.mpr ⟨s_getf (idx := 28) (C := RX7) (T := TX7) (N := 6) rfl inX7 (by decide) q1_35 (by decide +kernel) rfl, ?_⟩
  refine List.forall_mem_cons.mpr ⟨s_iload_n (j := 3) (by decide +kernel) rfl rfl, ?_⟩
  refine List.forall_mem_cons.mpr ⟨s_iast (by decide +kernel) rfl, ?_⟩
  refine List.forall_mem_cons.mpr ⟨s_iconst (by decide +kernel) rfl, ?_⟩
  refine List.forall_mem_cons.mpr ⟨s_iret rfl (by decide +kernel), ?_⟩
  exact fun q hq => absurd hq List.not_mem_nil
def T_X7_readHeight : List (Nat × zO) := [(0, o_aload 1 0), (1, o_getf 4 7 5), (4, o_istore 5 1), (5, o_aload 6 0), (6, o_getf 9 7 3), (9, o_aload 10 0), (10, o_getf 13 7 4), (13, o_aload 14 0), (14, o_const 15 3), (15, o_callv 1 7 k_X7_readNumber 18), (18, o_iast 19), (19, o_aload 20 0), (20, o_getf 23 7 5), (23, o_iload 24 1), (24, o_icmp_ne 34 27), (27, o_aload 28 0), (28, o_getf 31 7 5), (31, o_goto 35), (34, o_const 35 (-1)), (35, o_iret)]
set_option maxRecDepth 20000 in
theorem t_X7_readHeight : ∀ q ∈ T_X7_readHeight, zS k_X7_readHeight q.1 q.2 := by
  unfold T_X7_readHeight
  refine List.forall_mem_cons.mpr ⟨s_aload_n (j := 0) (by decide +kernel) rfl rfl, ?_⟩
  refine List.forall_mem_cons.mpr ⟨s_getf (idx := 25) (C := RX7) (T := TX7) (N := 6) rfl inX7 (by decide) q1_37 (by decide +kernel) rfl, ?_⟩
  refine List.forall_mem_cons.mpr ⟨s_istore_n (j := 1) (by decide +kernel) rfl (by decide) rfl, ?_⟩
  refine List.forall_mem_cons.mpr ⟨s_aload_n (j := 0) (by decide +kernel) rfl rfl, ?_⟩
  refine List.forall_mem_cons.mpr ⟨s_getf (idx := 18) (C := RX7) (T := TX7) (N := 6) rfl inX7 (by decide) q1_33 (by decide +kernel) rfl, ?_⟩
  refine List.forall_mem_cons.mpr ⟨s_aload_n (j := 0) (by decide +kernel) rfl rfl, ?_⟩
  refine List.forall_mem_cons.mpr ⟨s_getf (idx := 28) (C := RX7) (T := TX7) (N := 6) rfl inX7 (by decide) q1_35 (by decide +kernel) rfl, ?_⟩
  refine List.forall_mem_cons.mpr ⟨s_aload_n (j := 0) (by decide +kernel) rfl rfl, ?_⟩
  refine List.forall_mem_cons.mpr ⟨s_iconst (by decide +kernel) rfl, ?_⟩
  refine List.forall_mem_cons.mpr ⟨s_callv (idx := 39) (k' := k_X7_readNumber) (T := TX7) (N := 6) rfl q2_123 q2_120 q2_122 qs_1 q1_2 de_X7_readNumber (by decide) (by decide +kernel) rfl, ?_⟩
  refine List.forall_mem_cons.mpr ⟨s_iast (by decide +kernel) rfl, ?_⟩
  refine List.forall_mem_cons.mpr ⟨s_aload_n (j := 0) (by decide +kernel) rfl rfl, ?_⟩
  refine List.forall_mem_cons.mpr ⟨s_getf (idx := 25) (C := RX7) (T := TX7) (N := 6) rfl inX7 (by decide) q1_37 (by decide +kernel) rfl, ?_⟩
  refine List.forall_mem_cons.mpr ⟨s_iload_n (j := 1) (by decide +kernel) rfl rfl, ?_⟩
  refine List.forall_mem_cons.mpr ⟨s_icmp_ne (off := 10) (by decide +kernel) (by decide) rfl, ?_⟩
  refine List.forall_mem_cons.mpr ⟨s_aload_n (j := 0) (by decide +kernel) rfl rfl, ?_⟩
  refine List.forall_mem_cons.mpr ⟨s_getf (idx := 25) (C := RX7) (T := TX7) (N := 6) rfl inX7 (by decide) q1_37 (by decide +kernel) rfl, ?_⟩
  refine List.forall_mem_cons.mpr ⟨s_goto (off := 4) (by decide +kernel) (by decide), ?_⟩
  refine List.forall_mem_cons.mpr ⟨s_iconst (by decide +kernel) rfl, ?_⟩
  refine List.forall_mem_cons.mpr ⟨s_iret rfl (by decide +kernel), ?_⟩
  exact fun q hq => absurd hq List.not_mem_nil
def T_X7_readNumber : List (Nat × zO) := [(0, o_const 1 0), (1, o_istore 2 2), (2, o_const 3 0), (3, o_istore 4 3), (4, o_iload 5 3), (5, o_iload 6 1), (6, o_icmp_ge 50 9), (9, o_aload 10 0), (10, o_callv 0 7 k_X7_digitIsNext 13), (13, o_if_eq 50 16), (16, o_iload 17 2), (17, o_const 19 10), (19, o_imul 20), (20, o_aload 21 0), (21, o_getf 24 7 0), (24, o_aload 25 0), (25, o_getf 28 7 5), (28, o_iald 29), (29, o_iadd 30), (30, o_const 32 48), (32, o_isub 33), (33, o_istore 34 2), (34, o_aload 35 0), (35, o_dup 36), (36, o_getf 39 7 5), (39, o_const 40 1), (40, o_iadd 41), (41, o_putf 44 7 5), (44, o_iinc 47 3 1), (47, o_goto 4), (50, o_iload 51 2), (51, o_iret)]
set_option maxRecDepth 20000 in
theorem t_X7_readNumber : ∀ q ∈ T_X7_readNumber, zS k_X7_readNumber q.1 q.2 := by
  unfold T_X7_readNumber
  refine List.forall_mem_cons.mpr ⟨s_iconst (by decide +kernel) rfl, ?_⟩
  refine List.forall_mem_cons.mpr ⟨s_istore_n (j := 2) (by decide +kernel) rfl (by decide) rfl, ?_⟩
  refine List.forall_mem_cons.mpr ⟨s_iconst (by decide +kernel) rfl, ?_⟩
  refine List.forall_mem_cons.mpr ⟨s_istore_n (j := 3) (by decide +kernel) rfl (by decide) rfl, ?_⟩
  refine List.forall_mem_cons.mpr ⟨s_iload_n (j := 3) (by decide +kernel) rfl rfl, ?_⟩
  refine List.forall_mem_cons.mpr ⟨s_iload_n (j := 1) (by decide +kernel) rfl rfl, ?_⟩
  refine List.forall_mem_cons.mpr ⟨s_icmp_ge (off := 44) (by decide +kernel) (by decide) rfl, ?_⟩
  refine List.forall_mem_cons.mpr ⟨s_aload_n (j := 0) (by decide +kernel) rfl rfl, ?_⟩
  refine List.forall_mem_cons.mpr ⟨s_callv (idx := 42) (k' := k_X7_digitIsNext) (T := TX7) (N := 6) rfl q2_127 q2_124 q2_126 qs_2 q1_2 de_X7_digitIsNext (by decide) (by decide +kernel) rfl, ?_⟩
  refine List.forall_mem_cons.mpr ⟨s_if_eq (off := 37) (by decide +kernel) (by decide) rfl, ?_⟩
  refine List.forall_mem_cons.mpr ⟨s_iload_n (j := 2) (by decide +kernel) rfl rfl, ?_⟩
  refine List.forall_mem_cons.mpr ⟨s_bipush (by decide +kernel) (by decide) rfl, ?_⟩
  refine List.forall_mem_cons.mpr ⟨s_imul (by decide +kernel) rfl, ?_⟩
  refine List.forall_mem_cons.mpr ⟨s_aload_n (j := 0) (by decide +kernel) rfl rfl, ?_⟩
  refine List.forall_mem_cons.mpr ⟨s_getf (idx := 9) (C := RX7) (T := TX7) (N := 6) rfl inX7 (by decide) q1_28 (by decide +kernel) rfl, ?_⟩
  refine List.forall_mem_cons.mpr ⟨s_aload_n (j := 0) (by decide +kernel) rfl rfl, ?_⟩
  refine List.forall_mem_cons.mpr ⟨s_getf (idx := 25) (C := RX7) (T := TX7) (N := 6) rfl inX7 (by decide) q1_37 (by decide +kernel) rfl, ?_⟩
  refine List.forall_mem_cons.mpr ⟨s_iald (by decide +kernel) rfl, ?_⟩
  refine List.forall_mem_cons.mpr ⟨s_iadd (by decide +kernel) rfl, ?_⟩
  refine List.forall_mem_cons.mpr ⟨s_bipush (by decide +kernel) (by decide) rfl, ?_⟩
  refine List.forall_mem_cons.mpr ⟨s_isub (by decide +kernel) rfl, ?_⟩
  refine List.forall_mem_cons.mpr ⟨s_istore_n (j := 2) (by decide +kernel) rfl (by decide) rfl, ?_⟩
  refine List.forall_mem_cons.mpr ⟨s_aload_n (j := 0) (by decide +kernel) rfl rfl, ?_⟩
  refine List.forall_mem_cons.mpr ⟨s_dup (by decide +kernel) rfl, ?_⟩
  refine List.forall_mem_cons.mpr ⟨s_getf (idx := 25) (C := RX7) (T := TX7) (N := 6) rfl inX7 (by decide) q1_37 (by decide +kernel) rfl, ?_⟩
  refine List.forall_mem_cons.mpr ⟨s_iconst (by decide +kernel) rfl, ?_⟩
  refine List.forall_mem_cons.mpr ⟨s_iadd (by decide +kernel) rfl, ?_⟩
  refine List.forall_mem_cons.mpr ⟨s_putf (idx := 25) (C := RX7) (T := TX7) (N := 6) rfl inX7 tyX7_ok nmX7 (by decide) rfl (tyX7_ok 5 (by decide)) (Or.inl ⟨rfl, kdI 7 5 (by decide)⟩) q1_37 (by decide +kernel) rfl, ?_⟩
  refine List.forall_mem_cons.mpr ⟨s_iinc (by decide +kernel) (by decide) rfl, ?_⟩
  refine List.forall_mem_cons.mpr ⟨s_goto (off := (-43)) (by decide +kernel) (by decide), ?_⟩
  refine List.forall_mem_cons.mpr ⟨s_iload_n (j := 2) (by decide +kernel) rfl rfl, ?_⟩
  refine List.forall_mem_cons.mpr ⟨s_iret rfl (by decide +kernel), ?_⟩
  exact fun q hq => absurd hq List.not_mem_nil
def T_X7_digitIsNext : List (Nat × zO) := [(0, o_aload 1 0), (1, o_getf 4 7 5), (4, o_aload 5 0), (5, o_getf 8 7 1), (8, o_icmp_ge 43 11), (11, o_aload 12 0), (12, o_getf 15 7 0), (15, o_aload 16 0), (16, o_getf 19 7 5), (19, o_iald 20), (20, o_const 22 48), (22, o_icmp_lt 43 25), (25, o_aload 26 0), (26, o_getf 29 7 0), (29, o_aload 30 0), (30, o_getf 33 7 5), (33, o_iald 34), (34, o_const 36 57), (36, o_icmp_gt 43 39), (39, o_const 40 1), (40, o_goto 44), (43, o_const 44 0), (44, o_zret)]
set_option maxRecDepth 20000 in
theorem t_X7_digitIsNext : ∀ q ∈ T_X7_digitIsNext, zS k_X7_digitIsNext q.1 q.2 := by
  unfold T_X7_digitIsNext
  refine List.forall_mem_cons.mpr ⟨s_aload_n (j := 0) (by decide +kernel) rfl rfl, ?_⟩
  refine List.forall_mem_cons.mpr ⟨s_getf (idx := 25) (C := RX7) (T := TX7) (N := 6) rfl inX7 (by decide) q1_37 (by decide +kernel) rfl, ?_⟩
  refine List.forall_mem_cons.mpr ⟨s_aload_n (j := 0) (by decide +kernel) rfl rfl, ?_⟩
  refine List.forall_mem_cons.mpr ⟨s_getf (idx := 21) (C := RX7) (T := TX7) (N := 6) rfl inX7 (by decide) q1_29 (by decide +kernel) rfl, ?_⟩
  refine List.forall_mem_cons.mpr ⟨s_icmp_ge (off := 35) (by decide +kernel) (by decide) rfl, ?_⟩
  refine List.forall_mem_cons.mpr ⟨s_aload_n (j := 0) (by decide +kernel) rfl rfl, ?_⟩
  refine List.forall_mem_cons.mpr ⟨s_getf (idx := 9) (C := RX7) (T := TX7) (N := 6) rfl inX7 (by decide) q1_28 (by decide +kernel) rfl, ?_⟩
  refine List.forall_mem_cons.mpr ⟨s_aload_n (j := 0) (by decide +kernel) rfl rfl, ?_⟩
  refine List.forall_mem_cons.mpr ⟨s_getf (idx := 25) (C := RX7) (T := TX7) (N := 6) rfl inX7 (by decide) q1_37 (by decide +kernel) rfl, ?_⟩
  refine List.forall_mem_cons.mpr ⟨s_iald (by decide +kernel) rfl, ?_⟩
  refine List.forall_mem_cons.mpr ⟨s_bipush (by decide +kernel) (by decide) rfl, ?_⟩
  refine List.forall_mem_cons.mpr ⟨s_icmp_lt (off := 21) (by decide +kernel) (by decide) rfl, ?_⟩
  refine List.forall_mem_cons.mpr ⟨s_aload_n (j := 0) (by decide +kernel) rfl rfl, ?_⟩
  refine List.forall_mem_cons.mpr ⟨s_getf (idx := 9) (C := RX7) (T := TX7) (N := 6) rfl inX7 (by decide) q1_28 (by decide +kernel) rfl, ?_⟩
  refine List.forall_mem_cons.mpr ⟨s_aload_n (j := 0) (by decide +kernel) rfl rfl, ?_⟩
  refine List.forall_mem_cons.mpr ⟨s_getf (idx := 25) (C := RX7) (T := TX7) (N := 6) rfl inX7 (by decide) q1_37 (by decide +kernel) rfl, ?_⟩
  refine List.forall_mem_cons.mpr ⟨s_iald (by decide +kernel) rfl, ?_⟩
  refine List.forall_mem_cons.mpr ⟨s_bipush (by decide +kernel) (by decide) rfl, ?_⟩
  refine List.forall_mem_cons.mpr ⟨s_icmp_gt (off := 7) (by decide +kernel) (by decide) rfl, ?_⟩
  refine List.forall_mem_cons.mpr ⟨s_iconst (by decide +kernel) rfl, ?_⟩
  refine List.forall_mem_cons.mpr ⟨s_goto (off := 4) (by decide +kernel) (by decide), ?_⟩
  refine List.forall_mem_cons.mpr ⟨s_iconst (by decide +kernel) rfl, ?_⟩
  refine List.forall_mem_cons.mpr ⟨s_zret rfl (by decide +kernel), ?_⟩
  exact fun q hq => absurd hq List.not_mem_nil
def T_J7_fill_d0a16 : List (Nat × zO) := [(0, o_const 1 0), (1, o_istore 2 3), (2, o_aload 3 0), (3, o_alen 4), (4, o_istore 6 4), (6, o_iload 7 3), (7, o_iload 9 4), (9, o_icmp_ge 22 12), (12, o_aload 13 0), (13, o_iload 14 3), (14, o_lload 15 1), (15, o_last 16), (16, o_iinc 19 3 1), (19, o_goto 6), (22, o_vret)]
set_option maxRecDepth 20000 in
theorem t_J7_fill_d0a16 : ∀ q ∈ T_J7_fill_d0a16, zS k_J7_fill_d0a16 q.1 q.2 := by
  unfold T_J7_fill_d0a16
  refine List.forall_mem_cons.mpr ⟨s_iconst (by decide +kernel) rfl, ?_⟩
  refine List.forall_mem_cons.mpr ⟨s_istore_n (j := 3) (by decide +kernel) rfl (by decide) rfl, ?_⟩
  refine List.forall_mem_cons.mpr ⟨s_aload_n (j := 0) (by decide +kernel) rfl rfl, ?_⟩
  refine List.forall_mem_cons.mpr ⟨s_alen (by decide +kernel) rfl, ?_⟩
  refine List.forall_mem_cons.mpr ⟨s_istore (by decide +kernel) (by decide) rfl, ?_⟩
  refine List.forall_mem_cons.mpr ⟨s_iload_n (j := 3) (by decide +kernel) rfl rfl, ?_⟩
  refine List.forall_mem_cons.mpr ⟨s_iload (by decide +kernel) rfl, ?_⟩
  refine List.forall_mem_cons.mpr ⟨s_icmp_ge (off := 13) (by decide +kernel) (by decide) rfl, ?_⟩
  refine List.forall_mem_cons.mpr ⟨s_aload_n (j := 0) (by decide +kernel) rfl rfl, ?_⟩
  refine List.forall_mem_cons.mpr ⟨s_iload_n (j := 3) (by decide +kernel) rfl rfl, ?_⟩
  refine List.forall_mem_cons.mpr ⟨s_lload_n (j := 1) (by decide +kernel) rfl rfl, ?_⟩
  refine List.forall_mem_cons.mpr ⟨s_last (by decide +kernel) rfl, ?_⟩
  refine List.forall_mem_cons.mpr ⟨s_iinc (by decide +kernel) (by decide) rfl, ?_⟩
  refine List.forall_mem_cons.mpr ⟨s_goto (off := (-13)) (by decide +kernel) (by decide), ?_⟩
  refine List.forall_mem_cons.mpr ⟨s_vret rfl (by decide +kernel), ?_⟩
  exact fun q hq => absurd hq List.not_mem_nil
def T_J7_fill_53178 : List (Nat × zO) := [(0, o_const 1 0), (1, o_istore 2 2), (2, o_aload 3 0), (3, o_alen 4), (4, o_istore 5 3), (5, o_iload 6 2), (6, o_iload 7 3), (7, o_icmp_ge 20 10), (10, o_aload 11 0), (11, o_iload 12 2), (12, o_iload 13 1), (13, o_iast 14), (14, o_iinc 17 2 1), (17, o_goto 5), (20, o_vret)]
set_option maxRecDepth 20000 in
theorem t_J7_fill_53178 : ∀ q ∈ T_J7_fill_53178, zS k_J7_fill_53178 q.1 q.2 := by
  unfold T_J7_fill_53178
  refine List.forall_mem_cons.mpr ⟨s_iconst (by decide +kernel) rfl, ?_⟩
  refine List.forall_mem_cons.mpr ⟨s_istore_n (j := 2) (by decide +kernel) rfl (by decide) rfl, ?_⟩
  refine List.forall_mem_cons.mpr ⟨s_aload_n (j := 0) (by decide +kernel) rfl rfl, ?_⟩
  refine List.forall_mem_cons.mpr ⟨s_alen (by decide +kernel) rfl, ?_⟩
  refine List.forall_mem_cons.mpr ⟨s_istore_n (j := 3) (by decide +kernel) rfl (by decide) rfl, ?_⟩
  refine List.forall_mem_cons.mpr ⟨s_iload_n (j := 2) (by decide +kernel) rfl rfl, ?_⟩
  refine List.forall_mem_cons.mpr ⟨s_iload_n (j := 3) (by decide +kernel) rfl rfl, ?_⟩
  refine List.forall_mem_cons.mpr ⟨s_icmp_ge (off := 13) (by decide +kernel) (by decide) rfl, ?_⟩
  refine List.forall_mem_cons.mpr ⟨s_aload_n (j := 0) (by decide +kernel) rfl rfl, ?_⟩
  refine List.forall_mem_cons.mpr ⟨s_iload_n (j := 2) (by decide +kernel) rfl rfl, ?_⟩
  refine List.forall_mem_cons.mpr ⟨s_iload_n (j := 1) (by decide +kernel) rfl rfl, ?_⟩
  refine List.forall_mem_cons.mpr ⟨s_iast (by decide +kernel) rfl, ?_⟩
  refine List.forall_mem_cons.mpr ⟨s_iinc (by decide +kernel) (by decide) rfl, ?_⟩
  refine List.forall_mem_cons.mpr ⟨s_goto (off := (-12)) (by decide +kernel) (by decide), ?_⟩
  refine List.forall_mem_cons.mpr ⟨s_vret rfl (by decide +kernel), ?_⟩
  exact fun q hq => absurd hq List.not_mem_nil
